section
-- ===== PART A: goes FIRST, ahead of the names: the tables' words, and 'selects' of the private methods out of them =====
/-- a private method of a class that the tables say can be made, by its rows of tables_1 -/
def lw_okq (q : MethodName × Nat) : Prop := (q.1.cls ≠ "java/lang/invoke/MethodHandle" ∧ q.1.cls ≠ "java/lang/invoke/VarHandle") ∧ Cond.instantiable q.1.cls q.2 ∈ tables_1 ∧ Cond.privateMethod q.1 ∈ tables_1 ∧ Cond.instanceMethod q.1 ∈ tables_1
theorem lw_p0 : lw_okq (⟨"java/lang/Throwable", "fillInStackTrace", "(I)Ljava/lang/Throwable;"⟩, 6) := ⟨⟨by decide +kernel, by decide +kernel⟩, List.mem_of_getElem? (i := 136) (by decide +kernel), List.mem_of_getElem? (i := 134) (by decide +kernel), List.mem_of_getElem? (i := 135) (by decide +kernel)⟩
theorem lw_p1 : lw_okq (⟨"VinegarLoft", "barrelNumbered", "(I)LVinegarLoft$Barrel;"⟩, 4) := ⟨⟨by decide +kernel, by decide +kernel⟩, List.mem_of_getElem? (i := 11) (by decide +kernel), List.mem_of_getElem? (i := 223) (by decide +kernel), List.mem_of_getElem? (i := 224) (by decide +kernel)⟩
theorem lw_p2 : lw_okq (⟨"VinegarLoft$Row", "draughtNow", "()D"⟩, 5) := ⟨⟨by decide +kernel, by decide +kernel⟩, List.mem_of_getElem? (i := 19) (by decide +kernel), List.mem_of_getElem? (i := 343) (by decide +kernel), List.mem_of_getElem? (i := 344) (by decide +kernel)⟩
theorem lw_p3 : lw_okq (⟨"VinegarLoft$Barrel", "sour", "()V"⟩, 6) := ⟨⟨by decide +kernel, by decide +kernel⟩, List.mem_of_getElem? (i := 26) (by decide +kernel), List.mem_of_getElem? (i := 362) (by decide +kernel), List.mem_of_getElem? (i := 363) (by decide +kernel)⟩
def lw_privs_1 : List (MethodName × Nat) := [(⟨"java/lang/Throwable", "fillInStackTrace", "(I)Ljava/lang/Throwable;"⟩, 6), (⟨"VinegarLoft", "barrelNumbered", "(I)LVinegarLoft$Barrel;"⟩, 4), (⟨"VinegarLoft$Row", "draughtNow", "()D"⟩, 5), (⟨"VinegarLoft$Barrel", "sour", "()V"⟩, 6)]
theorem lw_r1 : ∀ q ∈ lw_privs_1, lw_okq q := List.forall_mem_cons.mpr ⟨lw_p0, List.forall_mem_cons.mpr ⟨lw_p1, List.forall_mem_cons.mpr ⟨lw_p2, List.forall_mem_cons.mpr ⟨lw_p3, fun _ h => absurd h List.not_mem_nil⟩⟩⟩⟩
def lw_privs : List (MethodName × Nat) := lw_privs_1
def lw_tbl : List Cond := k2_sels lw_privs ++ tables_1
theorem lw_privs_ok : ∀ q ∈ lw_privs, lw_okq q := lw_r1
/-- the streams that the claim lets the run draw from -/
abbrev lw_cs : List Choice := [Jvm.Choice.named "NaN.bits"]
theorem lw_bits : nanBits ∈ lw_cs := by first | decide | exact List.mem_cons_self | simp [lw_cs, nanBits]
-- ===== end of PART A; then your names; then what follows =====
end
section
/-! ===== BEGIN words of one list among another's, by their places ===== -/
theorem goodIn_r {big : List Cond} (ws : List Cond) (ps : List Nat) (hp : ws = ps.filterMap (fun i => big[i]?)) (h : ws.all goodWord = true) : GoodIn big ws := by
  intro w hw
  have h1 := List.all_eq_true.mp h w hw
  rw [hp] at hw
  obtain ⟨i, -, hi⟩ := List.mem_filterMap.mp hw
  have hm : w ∈ big := by first | exact List.mem_of_getElem? hi | exact List.getElem?_mem hi
  exact ⟨hm, good_of_word h1⟩
theorem goodIn_app {big a b : List Cond} (ha : GoodIn big a) (hb : GoodIn big b) : GoodIn big (a ++ b) := fun w h => (List.mem_append.mp h).elim (ha w) (hb w)
theorem goodIn_ca {big a b : List Cond} {c : Cond} (ha : GoodIn big (c :: a)) (hb : GoodIn big b) : GoodIn big (c :: (a ++ b)) := fun w h => (List.mem_cons.mp h).elim (fun e => ha w (List.mem_cons.mpr (Or.inl e))) (fun h => (List.mem_append.mp h).elim (fun h => ha w (List.mem_cons.mpr (Or.inr h))) (hb w))
theorem goodIn_sub {big ws : List Cond} (hm : ∀ w ∈ ws, w ∈ big) (h : ws.all goodWord = true) : GoodIn big ws := fun w hw => ⟨hm w hw, good_of_word (List.all_eq_true.mp h w hw)⟩
/-! ===== END ===== -/

/-! ===== BEGIN exceptions that leave a method, and their catching by the caller (launches without stack traces) ===== -/
section VXA
/-! The laws vx_back, vx_callV, vx_callS, vx_callSW, vx_throw0, vx_throwS follow proofs of the library, with one case more: JvmDerived/Free/Laws.lean (Back.of_free), Shelf42/LK1.lean (callV, callS), Shelf/KitTraced.lean (throwNew0V, throwNewS). -/
/-- where a method has thrown q: the class by its name, the cell, what was written, the world -/
def vx_T (XC : String → State → State → Prop) (st : State) (q : Addr) (t : State) (mc ms : Nat) (free : Addr → Prop) : Prop :=
  ∃ (E : String) (ce : Cell) (L : List Loc), XC E st t ∧ t.heap[q]? = some ce ∧ ce.vm = .none ∧ st.vm.findClass E = some ce.cls ∧ st.WarmedH t.vm ∧ st.sameButNew ({ t with vm := st.vm } : State) L mc ms ∧ ∀ z ∈ L, free z.base
def vx_Q (Qc : Array Value → State → Outcome → State → Prop) (XC : String → State → State → Prop) (mc ms : Nat) (free : Addr → Prop) : Array Value → State → Outcome → State → Prop := fun a st o t =>
  (Qc a st o t ∧ ∃ L, FrameEnd st o t L mc ms ∧ ∀ q ∈ L, free q.base) ∨ ∃ q, o = .threw q ∧ vx_T XC st q t mc ms free
/-- a callee that returns or throws -/
def vx_Met (l : Launch) (y : MethodName) (ws : List Cond) (rm : Room) (Pc : Array Value → State → Prop) (Qc : Array Value → State → Outcome → State → Prop) (XC : String → State → State → Prop) (mc ms : Nat) (free : Addr → Prop) : Prop :=
  MetFree l y (headSpec ws rm) Pc (fun _ _ _ _ _ => True) (vx_Q Qc XC mc ms free)
def vx_Post (XC : String → State → State → Prop) (mc ms : Nat) (free : Addr → Prop) : Pt → Array Value → Addr → Pt → Prop := fun A a q B =>
  ∃ (g : JFrame) (mk : MethodId) (t : State) (L : List Loc) (E : String) (ce : Cell), B.U.heap = t.heap ∧ B.U.vm = t.vm ∧ XC E (A.U.calling g mk a) t ∧ t.heap[q]? = some ce ∧ ce.vm = .none ∧ A.U.vm.findClass E = some ce.cls ∧ B.locs = A.locs ++ L ∧ (∀ z ∈ L, free z.base) ∧ B.cells = A.cells + mc ∧ B.slots = A.slots + ms
def vx_Back (l : Launch) (R : Room) (p : Program) (e : Env) (below : List Frame) (s : State) (sargs : Array Value) (y : MethodName) (len W9 : Nat)
    (Pre : Pt → Array Value → Prop) (Post : Pt → Array Value → Option Value → Pt → Prop) (PostX : Pt → Array Value → Addr → Pt → Prop) : Prop :=
  ∀ (m : MethodId) (meth : Method) (c : Code) (A : Pt) (g : JFrame) (ig : Instr) (mk : MethodId) (a : Array Value),
    Stand p l e R s m sargs below meth c A.U A.locs A.cells A.slots → g.method = m → g.locals.size = c.maxLocals → decode c.code g.pc = .ok (ig, len) →
    2 * g.monitorRoom + (g.stack.map fun v => v.category).sum ≤ W9 → A.U.methodNamed? y = some mk → Pre A a →
    (∃ (v : Option Value) (B : Pt), Stand p l e R s m sargs below meth c B.U B.locs B.cells B.slots ∧ Post A a v B ∧
      Steps p.tables e below (doInvoke e (A.U.setTop g) [] mk a).1 (B.U.setTop { g with pc := g.pc + len, stack := v.toList ++ g.stack })) ∨
    (∃ (q : Addr) (B : Pt), Stand p l e R s m sargs below meth c B.U B.locs B.cells B.slots ∧ PostX A a q B ∧
      Steps p.tables e below (doInvoke e (A.U.setTop g) [] mk a).1 ((B.U.setTop g).pushFrame (.throwing q)))
section Payer
variable {l : Launch} {R : Room} {p : Program} {e : Env} {below : List Frame} {s : State} {sargs : Array Value} {y : MethodName} {len W9 : Nat}
theorem vx_back {ws : List Cond} {rm : Room} {Pc : Array Value → State → Prop} {Qc : Array Value → State → Outcome → State → Prop} {XC : String → State → State → Prop} {mc ms : Nat} {free : Addr → Prop} {bytes : ByteArray} {maxL : Nat} {ret : Option FieldType}
    (hM : vx_Met l y ws rm Pc Qc XC mc ms free) (hblind : FrameBlind Pc) (hrc : rm.cells = mc) (hrs : rm.slots = ms)
    (hframes : rm.frames + 1 ≤ R.frames) (hlocals : W9 + (maxL + 11) + rm.locals ≤ R.locals)
    (hws : ∀ w ∈ ws, ∀ a' U, s.WarmedH U.vm → w.before a' U = true) (hcode : Cond.code y bytes maxL ret ∈ ws) (hinit : ∀ a' U, s.WarmedH U.vm → (Cond.initialized y.cls).before a' U = true) :
    vx_Back l R p e below s sargs y len W9 (PreOf R mc ms Pc) (PostOf Qc mc ms free) (vx_Post XC mc ms free) := by
  intro m meth c A g ig mk a X hg hsize hdg hW hn hp
  have h1 : (headSpec ws rm).pre.before a A.U = true := atoms_intro fun w hw => hws w hw _ _ X.warmed
  have h2 : (Cond.code y bytes maxL ret).before a A.U = true := hws _ hcode _ _ X.warmed
  have h3 : (Cond.initialized y.cls).before a A.U = true := hinit _ _ X.warmed
  have h4 : A.cells + (headSpec ws rm).room.cells ≤ R.cells := by rw [show (headSpec ws rm).room.cells = mc from hrc]; exact hp.1
  have h5 : A.slots + (headSpec ws rm).room.slots ≤ R.slots := by rw [show (headSpec ws rm).room.slots = ms from hrs]; exact hp.2.1
  have hPc : Pc a (A.U.calling g mk a) := hblind _ _ _ _ hp.2.2
  obtain ⟨U, Ls, c0, s0⟩ := A
  dsimp only [Pt.U, Pt.locs, Pt.cells, Pt.slots] at h1 h2 h3 h4 h5 X hn hPc ⊢
  obtain ⟨methY, cY, hmY, hcY, -, hlY, -, -, -, -⟩ := Cond.code_spec hn h2
  obtain ⟨kY, hkY, -⟩ := className_of_methodNamed hn
  have hinitY : kY.init = .initialized := Cond.initialized_spec (findClass_of_methodNamed hn) hkY h3
  have h : At U g.method c below := by rw [hg]; exact X.here
  have hlocals9 : W9 + (maxL + 11) + (headSpec ws rm).room.locals ≤ R.locals := hlocals
  have happ : (headSpec ws rm).appliesLoose y e.platform (U.calling g mk a) = true :=
    Spec.appliesLoose_calling (g := g) h hdg hn hkY hinitY
      (X.room_calling (g := g) (R' := (headSpec ws rm).room) hsize hmY hcY hframes (by rw [hlY]; omega) h4 h5) h1
  obtain ⟨mid, hmid⟩ := h.above
  have hfr : (U.setTop g).frames = (.java g :: mid) ++ below := by rw [State.frames_setTop' g h.top, hmid]; rfl
  obtain ⟨o, s₂, hsteps, -, hend, hq⟩ := Steps.callFree hM p X.admits X.cas X.clock (acts := []) hfr happ hPc trivial
  have hq' : vx_Q Qc XC mc ms free a (U.calling g mk a) o s₂ := hq
  rw [State.frames_setTop' g h.top] at hend
  obtain ⟨g₀, hg0⟩ := Option.isSome_iff_exists.mp h.top
  obtain ⟨r, hr⟩ := State.topJava?_eq_some.mp hg0
  have hr' : (({ U with heap := s₂.heap, slotsUsed := s₂.slotsUsed } : State).setVm s₂.vm).frames = .java g₀ :: r := hr
  rcases hq' with ⟨hqc, L, hfe, hL⟩ | ⟨q, rfl, E, ce, L, hx, hce, hcv, hcl, hW₂, hsm, hL⟩
  · obtain ⟨⟨v, rfl⟩, hW₂, e2, q2, q3, q4, q5, q6⟩ := id hfe
    have e3 : s₂ = ({ (U.calling g mk a).setFrames s₂.frames with heap := s₂.heap, slotsUsed := s₂.slotsUsed } : State).setVm s₂.vm := by
      have : s₂ = ({ s₂ with vm := (U.calling g mk a).vm } : State).setVm s₂.vm := rfl
      rw [e2] at this
      exact this
    obtain ⟨c₂, i₂, len₂, hc₂, hd₂, hf₂⟩ := hend
    have hW' : U.WarmedH s₂.vm := hW₂
    have hcc : c₂ = c := by
      have h1 : s₂.code? g.method = U.code? g.method := by
        rw [State.code?_eq, State.code?_eq, hW'.alike.method?]
      exact Option.some.inj (hc₂.symm.trans (h1.trans h.code))
    subst hcc
    have hlen : len₂ = len := by rw [hdg] at hd₂; cases hd₂; rfl
    subst hlen
    have hs₂ : s₂ = (({ U with heap := s₂.heap, slotsUsed := s₂.slotsUsed } : State).setVm s₂.vm).setTop { g with pc := g.pc + len₂, stack := v.toList ++ g.stack } := by
      refine e3.trans ?_
      rw [hf₂, State.calling_eq h.top, State.setFrames_setFrames, State.setTop_of_frames _ hr', hr]
      rfl
    have hsame : U.sameButNew ({ U with heap := s₂.heap, slotsUsed := s₂.slotsUsed } : State) L mc ms := by
      refine ⟨?_, q2, q3, q4, q5, q6⟩
      obtain ⟨t, ht, -⟩ := State.frames_cons hr
      show ({ U with heap := s₂.heap, slotsUsed := s₂.slotsUsed } : State) = { U.setFrames U.frames with heap := s₂.heap, slotsUsed := s₂.slotsUsed }
      rw [State.setFrames_self ht]
    subst hg
    refine Or.inl ⟨v, ⟨(({ U with heap := s₂.heap, slotsUsed := s₂.slotsUsed } : State).setVm s₂.vm), Ls ++ L, c0 + mc, s0 + ms⟩,
      ⟨X.admits, X.cas, X.clock, X.frames, X.room, X.hears, X.method, X.code, (X.here.setHeapUsed s₂.heap s₂.slotsUsed).setVm hW'.alike, X.tail, State.WarmedH.trans X.warmed hW', X.limits, X.bytes, X.same.trans (hsame.setVm s.vm)⟩,
      ⟨g, mk, s₂, L, rfl, rfl, hqc, rfl, hL, rfl, rfl⟩, ?_⟩
    show Steps p.tables e below _ ((({ U with heap := s₂.heap, slotsUsed := s₂.slotsUsed } : State).setVm s₂.vm).setTop { g with pc := g.pc + len₂, stack := v.toList ++ g.stack })
    rw [← hs₂]
    exact hsteps
  · obtain ⟨e2, q2, q3, q4, q5, q6⟩ := id hsm
    have e3 : s₂ = ({ (U.calling g mk a).setFrames s₂.frames with heap := s₂.heap, slotsUsed := s₂.slotsUsed } : State).setVm s₂.vm := by
      have : s₂ = ({ s₂ with vm := (U.calling g mk a).vm } : State).setVm s₂.vm := rfl
      rw [e2] at this
      exact this
    have hf₂ : s₂.frames = .throwing q :: .java g :: U.frames.tail := hend
    have hW' : U.WarmedH s₂.vm := hW₂
    have hs₂ : s₂ = ((({ U with heap := s₂.heap, slotsUsed := s₂.slotsUsed } : State).setVm s₂.vm).setTop g).pushFrame (.throwing q) := by
      refine e3.trans ?_
      rw [hf₂, State.calling_eq h.top, State.setFrames_setFrames, State.pushFrame, State.frames_setTop _ hr', State.setTop_of_frames _ hr', State.setFrames_setFrames, hr]
      rfl
    have hsame : U.sameButNew ({ U with heap := s₂.heap, slotsUsed := s₂.slotsUsed } : State) L mc ms := by
      refine ⟨?_, q2, q3, q4, q5, q6⟩
      obtain ⟨t, ht, -⟩ := State.frames_cons hr
      show ({ U with heap := s₂.heap, slotsUsed := s₂.slotsUsed } : State) = { U.setFrames U.frames with heap := s₂.heap, slotsUsed := s₂.slotsUsed }
      rw [State.setFrames_self ht]
    subst hg
    refine Or.inr ⟨q, ⟨(({ U with heap := s₂.heap, slotsUsed := s₂.slotsUsed } : State).setVm s₂.vm), Ls ++ L, c0 + mc, s0 + ms⟩,
      ⟨X.admits, X.cas, X.clock, X.frames, X.room, X.hears, X.method, X.code, (X.here.setHeapUsed s₂.heap s₂.slotsUsed).setVm hW'.alike, X.tail, State.WarmedH.trans X.warmed hW', X.limits, X.bytes, X.same.trans (hsame.setVm s.vm)⟩,
      ⟨g, mk, s₂, L, E, ce, rfl, rfl, hx, hce, hcv, hcl, rfl, hL, rfl, rfl⟩, ?_⟩
    show Steps p.tables e below _ (((({ U with heap := s₂.heap, slotsUsed := s₂.slotsUsed } : State).setVm s₂.vm).setTop g).pushFrame (.throwing q))
    rw [← hs₂]
    exact hsteps
end Payer
section Calls
variable {p : Program} {l : Launch} {e : Env} {R : Room} {s : State} {m : MethodId} {args : Array Value} {below : List Frame} {meth : Method} {c : Code} {T : State} {locs : List Loc} {cells slots : Nat}
theorem vx_callV (X : Stand p l e R s m args below meth c T locs cells slots) (hexec : p.tables.exec = Jvm.exec) {own C : String} {index : Nat} {y : MethodName} {bytes : ByteArray} {maxL : Nat} {ret : Option FieldType}
    (hown : s.vm.findClass own = some m.cls) (hlink : (Cond.methodLink own index y).before args s = true) (hinst : (Cond.instanceMethod y).before args s = true) (hsel : (Cond.selects C y y).before args s = true)
    (hcode : (Cond.code y bytes maxL ret).before args s = true) (hy : y.cls ≠ "java/lang/invoke/MethodHandle" ∧ y.cls ≠ "java/lang/invoke/VarHandle")
    {W9 : Nat} {Pre : Pt → Array Value → Prop} {Post : Pt → Array Value → Option Value → Pt → Prop} {PostX : Pt → Array Value → Addr → Pt → Prop} (hK : vx_Back l R p e below s args y 3 W9 Pre Post PostX)
    {b : Addr} {cellB : Cell} (hcell : T.heap[b]? = some cellB) (hobj : cellB.vm.isStatics = false) (hcls : s.vm.findClass C = some cellB.cls)
    {g : JFrame} (hg : g.method = m) (hsize : g.locals.size = c.maxLocals) {argsL rest : List Value} (hlen : ∀ sig, parseMethodDescriptor y.desc = some sig → argsL.length = sig.parameters.length)
    (hstack : g.stack = argsL.reverse ++ .ref b :: rest) (hW : 2 * g.monitorRoom + (rest.map fun v => v.category).sum ≤ W9) (hdg : decode c.code g.pc = .ok (.invokevirtual index, 3))
    (hpre : ∀ vm₁, s.WarmedH vm₁ → Pre ⟨T.setVm vm₁, locs, cells, slots⟩ (Value.ref b :: argsL).toArray) :
    (∃ (v : Option Value) (vm₁ : Vm) (B : Pt), s.WarmedH vm₁ ∧ Stand p l e R s m args below meth c B.U B.locs B.cells B.slots ∧ Post ⟨T.setVm vm₁, locs, cells, slots⟩ (Value.ref b :: argsL).toArray v B ∧
      ∀ target, Steps p.tables e below (B.U.setTop { g with pc := g.pc + 3, stack := v.toList ++ rest }) target → Steps p.tables e below (T.setTop g) target) ∨
    (∃ (q : Addr) (vm₁ : Vm) (B : Pt), s.WarmedH vm₁ ∧ Stand p l e R s m args below meth c B.U B.locs B.cells B.slots ∧ PostX ⟨T.setVm vm₁, locs, cells, slots⟩ (Value.ref b :: argsL).toArray q B ∧
      Steps p.tables e below (T.setTop g) ((B.U.setTop { g with stack := rest }).pushFrame (.throwing q))) := by
  obtain ⟨mk, methM, hnamed, hmethM, hstM, habM⟩ := Cond.instanceMethod_spec hinst
  obtain ⟨methM', cM, hmethM', -, -, -, -, -, -, hsigM⟩ := Cond.code_spec hnamed hcode
  cases hmethM.symm.trans hmethM'
  obtain ⟨c2, r2, m2, q1, q2, q3, q4, kP, hkP, hkPi⟩ := Cond.selects_spec hsel
  cases hcls.symm.trans q1
  cases (State.methodFound?_of_named hnamed hy).symm.trans q2
  cases hnamed.symm.trans q3
  have hselP : selectMethod e.platform s.vm cellB.cls mk = .method mk := by rw [Launch.admits_selectMethod X.admits]; exact q4
  obtain ⟨vm₁, X₁, hstep₁⟩ := X.invokevirtual hexec hown hlink hnamed hmethM hstM hkP hkPi hy (a := b) (cell := cellB) hcell
    (fun z h => by rw [h] at hobj; cases hobj) hselP hmethM habM hkP hkPi (g := g) hg (argsL := argsL) (rest := rest) (hlen _ hsigM) hstack hdg
  rcases hK m meth c ⟨T.setVm vm₁, locs, cells, slots⟩ { g with stack := rest } (.invokevirtual index) mk (Value.ref b :: argsL).toArray X₁ hg hsize hdg hW (X₁.named hnamed) (hpre vm₁ X₁.warmed) with ⟨v, B, X', hpost, hsteps⟩ | ⟨q, B, X', hpost, hsteps⟩
  · exact Or.inl ⟨v, vm₁, B, X₁.warmed, X', hpost, fun target h => hstep₁ _ fun acts => by rw [doInvoke_state]; exact hsteps.trans h⟩
  · exact Or.inr ⟨q, vm₁, B, X₁.warmed, X', hpost, hstep₁ _ fun acts => by rw [doInvoke_state]; exact hsteps⟩
theorem vx_callS (X : Stand p l e R s m args below meth c T locs cells slots) (hexec : p.tables.exec = Jvm.exec) {own : String} {index : Nat} {y : MethodName} {bytes : ByteArray} {maxL : Nat} {ret : Option FieldType}
    (hown : s.vm.findClass own = some m.cls) (hlink : (Cond.methodLink own index y).before args s = true) (hstat : (Cond.static y).before args s = true) (hinit : (Cond.initialized y.cls).before args s = true)
    (hcode : (Cond.code y bytes maxL ret).before args s = true) (hy : y.cls ≠ "java/lang/invoke/MethodHandle" ∧ y.cls ≠ "java/lang/invoke/VarHandle")
    {W9 : Nat} {Pre : Pt → Array Value → Prop} {Post : Pt → Array Value → Option Value → Pt → Prop} {PostX : Pt → Array Value → Addr → Pt → Prop} (hK : vx_Back l R p e below s args y 3 W9 Pre Post PostX)
    {g : JFrame} (hg : g.method = m) (hsize : g.locals.size = c.maxLocals) {argsL rest : List Value} (hlen : ∀ sig, parseMethodDescriptor y.desc = some sig → argsL.length = sig.parameters.length)
    (hstack : g.stack = argsL.reverse ++ rest) (hW : 2 * g.monitorRoom + (rest.map fun v => v.category).sum ≤ W9) (hdg : decode c.code g.pc = .ok (.invokestatic index, 3))
    (hpre : ∀ vm₁, s.WarmedH vm₁ → Pre ⟨T.setVm vm₁, locs, cells, slots⟩ argsL.toArray) :
    (∃ (v : Option Value) (vm₁ : Vm) (B : Pt), s.WarmedH vm₁ ∧ Stand p l e R s m args below meth c B.U B.locs B.cells B.slots ∧ Post ⟨T.setVm vm₁, locs, cells, slots⟩ argsL.toArray v B ∧
      ∀ target, Steps p.tables e below (B.U.setTop { g with pc := g.pc + 3, stack := v.toList ++ rest }) target → Steps p.tables e below (T.setTop g) target) ∨
    (∃ (q : Addr) (vm₁ : Vm) (B : Pt), s.WarmedH vm₁ ∧ Stand p l e R s m args below meth c B.U B.locs B.cells B.slots ∧ PostX ⟨T.setVm vm₁, locs, cells, slots⟩ argsL.toArray q B ∧
      Steps p.tables e below (T.setTop g) ((B.U.setTop { g with stack := rest }).pushFrame (.throwing q))) := by
  obtain ⟨mk, hnamed⟩ := Cond.code_named hcode
  obtain ⟨methM, cM, hmethM, -, -, -, -, -, -, hsigM⟩ := Cond.code_spec hnamed hcode
  have hstatic : methM.isStatic = true := Cond.static_spec hnamed hmethM hstat
  obtain ⟨kP, hkP, -⟩ := className_of_methodNamed hnamed
  have hinitP : kP.init = .initialized := Cond.initialized_spec (findClass_of_methodNamed hnamed) hkP hinit
  obtain ⟨vm₁, X₁, hstep₁⟩ := X.invokestatic hexec hown hlink hnamed hmethM hstatic hkP hinitP hy (g := g) hg (argsL := argsL) (rest := rest) (hlen _ hsigM) hstack hdg
  rcases hK m meth c ⟨T.setVm vm₁, locs, cells, slots⟩ { g with stack := rest } (.invokestatic index) mk argsL.toArray X₁ hg hsize hdg hW (X₁.named hnamed) (hpre vm₁ X₁.warmed) with ⟨v, B, X', hpost, hsteps⟩ | ⟨q, B, X', hpost, hsteps⟩
  · exact Or.inl ⟨v, vm₁, B, X₁.warmed, X', hpost, fun target h => hstep₁ _ fun acts => by rw [doInvoke_state]; exact hsteps.trans h⟩
  · exact Or.inr ⟨q, vm₁, B, X₁.warmed, X', hpost, hstep₁ _ fun acts => by rw [doInvoke_state]; exact hsteps⟩
end Calls
theorem vx_cls {s : State} {T : State} {vm₁ : Vm} {E : String} {k : ClassId} (hW : s.WarmedH vm₁) (h : (T.setVm vm₁).vm.findClass E = some k) : s.vm.findClass E = some k := by
  have h1 : vm₁.findClass E = some k := h
  rw [hW.alike.findClass] at h1
  exact h1
/-- the method's frame g, with q thrown over it -/
def vx_W (p : Program) (l : Launch) (e : Env) (R : Room) (s : State) (m : MethodId) (args : Array Value) (below : List Frame) (meth : Method) (c : Code) (H : Heap) (locs : List Loc) (cells slots : Nat) (Q : State → Prop) (g : JFrame) (q : Addr) : Prop :=
  ∀ T : State, T.heap = H → Stand p l e R s m args below meth c T locs cells slots → ∃ t, Steps p.tables e below ((T.setTop g).pushFrame (.throwing q)) t ∧ Q t
def vx_Run (p : Program) (l : Launch) (e : Env) (R : Room) (s : State) (m : MethodId) (args : Array Value) (below : List Frame) (meth : Method) (c : Code) (H : Heap) (locs : List Loc) (cells slots mc ms : Nat) (g : JFrame) (rest : List Value) (Qa : State → Outcome → State → Prop) (XC : String → State → State → Prop) (free : Addr → Prop) : Prop :=
  ∀ T : State, T.heap = H → Stand p l e R s m args below meth c T locs cells slots →
    (∃ (v : Option Value) (st₀ t T' : State) (L : List Loc), st₀.heap = H ∧ Stand p l e R s m args below meth c T' (locs ++ L) (cells + mc) (slots + ms) ∧ (∀ q ∈ L, free q.base) ∧ T'.heap = t.heap ∧ T'.vm = t.vm ∧ Qa st₀ (.returned v) t ∧
      Goes p e below T g T' { g with pc := g.pc + 3, stack := v.toList ++ rest }) ∨
    (∃ (q : Addr) (st₀ t T' : State) (L : List Loc) (E : String) (ce : Cell), st₀.heap = H ∧ Stand p l e R s m args below meth c T' (locs ++ L) (cells + mc) (slots + ms) ∧ (∀ z ∈ L, free z.base) ∧ T'.heap = t.heap ∧ T'.vm = t.vm ∧ XC E st₀ t ∧ t.heap[q]? = some ce ∧ ce.vm = .none ∧ s.vm.findClass E = some ce.cls ∧
      Steps p.tables e below (T.setTop g) ((T'.setTop { g with stack := rest }).pushFrame (.throwing q)))
def vx_X {S : Type} (px : S → Prop) (B : String → S → State → Prop) (A : Nat → Prop) : String → State → State → Prop := fun E st t => ∃ u : S, px u ∧ B E u t ∧ va_F A st t
section Runs
variable {p : Program} {l : Launch} {e : Env} {R : Room} {s : State} {m : MethodId} {args : Array Value} {below : List Frame} {meth : Method} {c : Code} {H : Heap} {locs : List Loc} {cells slots : Nat}
variable {y : MethodName} {bytes cc : ByteArray} {maxL nL mc ms n index : Nat} {ret : Option FieldType} {ws : List Cond} {rm : Room} {Pc : Array Value → State → Prop} {Qc : Array Value → State → Outcome → State → Prop} {XC : String → State → State → Prop} {free : Addr → Prop} {Ts : List Cond} {own C : String} {b : Addr} {As rest : List Value} {g : JFrame}
theorem vx_callBack (cb : CallB R s args own index y bytes maxL ret ws rm mc ms n) (hM : vx_Met l y ws rm Pc Qc XC mc ms free) (hbl : FrameBlind Pc) : vx_Back l R p e below s args y 3 8 (PreOf R mc ms Pc) (PostOf Qc mc ms free) (vx_Post XC mc ms free) := by
  obtain ⟨hrc, hrs, hfr, hlo, hws, hcw, -, hini, -⟩ := cb
  exact vx_back (bytes := bytes) (maxL := maxL) (ret := ret) hM hbl hrc hrs hfr hlo hws hcw (fun a' U hW => word_at hW (Or.inl (by first | rfl | simp [Cond.onTables, Cond.keeps, Cond.steady])) hini)
theorem vx_runV (S : CallFix p m c cc nL s args Ts own) (hM : vx_Met l y ws rm Pc Qc XC mc ms free) (cw : CallW R s args own C index y bytes maxL ret ws rm mc ms n) (hp : PreV s H C b Pc As)
    (hg : g.method = m) (hn : As.length = n) (hsize : g.locals.size = nL) (hstack : g.stack = As.reverse ++ .ref b :: rest) (hW : 2 * g.monitorRoom + (rest.map fun v => v.category).sum ≤ 8) (hdg : decode cc g.pc = .ok (.invokevirtual index, 3)) (hf : cells + mc ≤ R.cells ∧ slots + ms ≤ R.slots) :
    vx_Run p l e R s m args below meth c H locs cells slots mc ms g rest (Qc (Value.ref b :: As).toArray) XC free := by
  have hK : vx_Back l R p e below s args y 3 8 (PreOf R mc ms Pc) (PostOf Qc mc ms free) (vx_Post XC mc ms free) := vx_callBack cw.1 hM hp.1
  obtain ⟨⟨-, -, -, -, -, -, hcode, -, hy, hlen, hl⟩, hin, hse⟩ := cw
  obtain ⟨hx, hb, hml, ho, -⟩ := S
  obtain ⟨-, ⟨cellB, hcB, hoB, hclB⟩, hPc⟩ := hp
  intro T hT X
  rcases vx_callV X hx (C := C) (bytes := bytes) (maxL := maxL) (ret := ret) ho hl hin hse hcode hy hK (by rw [hT]; exact hcB) hoB hclB hg (hsize.trans hml.symm) (argsL := As) (rest := rest) (fun sig h => hn.trans (hlen sig h)) hstack hW (by rw [hb]; exact hdg)
    (fun vm₁ hW₁ => ⟨hf.1, hf.2, hPc (T.setVm vm₁) hT hW₁⟩) with ⟨v, vm₁, ⟨U', l2, c2, s2⟩, hW₁, X', ⟨g', mk, t, L, e1, e2, hq, h1, hL, h2, h3⟩, st⟩ | ⟨q, vm₁, ⟨U', l2, c2, s2⟩, hW₁, X', ⟨g', mk, t, L, E, ce, e1, e2, hq, hce, hcv, hcl, h1, hL, h2, h3⟩, st⟩
  · dsimp only [Pt.U, Pt.locs, Pt.cells, Pt.slots] at X' e1 e2 h1 h2 h3 st
    subst h1; subst h2; subst h3
    exact Or.inl ⟨v, (T.setVm vm₁).calling g' mk (Value.ref b :: As).toArray, t, U', L, hT, X', hL, e1, e2, hq, st⟩
  · dsimp only [Pt.U, Pt.locs, Pt.cells, Pt.slots] at X' e1 e2 h1 h2 h3 st hcl
    subst h1; subst h2; subst h3
    exact Or.inr ⟨q, (T.setVm vm₁).calling g' mk (Value.ref b :: As).toArray, t, U', L, E, ce, hT, X', hL, e1, e2, hq, hce, hcv, vx_cls hW₁ hcl, st⟩
theorem vx_runS (S : CallFix p m c cc nL s args Ts own) (hM : vx_Met l y ws rm Pc Qc XC mc ms free) (cw : CallB R s args own index y bytes maxL ret ws rm mc ms n ∧ (Cond.static y).before args s = true) (hp : PreS s H Pc As)
    (hg : g.method = m) (hn : As.length = n) (hsize : g.locals.size = nL) (hstack : g.stack = As.reverse ++ rest) (hW : 2 * g.monitorRoom + (rest.map fun v => v.category).sum ≤ 8) (hdg : decode cc g.pc = .ok (.invokestatic index, 3)) (hf : cells + mc ≤ R.cells ∧ slots + ms ≤ R.slots) :
    vx_Run p l e R s m args below meth c H locs cells slots mc ms g rest (Qc As.toArray) XC free := by
  have hK : vx_Back l R p e below s args y 3 8 (PreOf R mc ms Pc) (PostOf Qc mc ms free) (vx_Post XC mc ms free) := vx_callBack cw.1 hM hp.1
  obtain ⟨⟨-, -, -, -, -, -, hcode, hini, hy, hlen, hl⟩, hstt⟩ := cw
  obtain ⟨hx, hb, hml, ho, -⟩ := S
  intro T hT X
  rcases vx_callS X hx (bytes := bytes) (maxL := maxL) (ret := ret) ho hl hstt hini hcode hy hK hg (hsize.trans hml.symm) (argsL := As) (rest := rest) (fun sig h => hn.trans (hlen sig h)) hstack hW (by rw [hb]; exact hdg)
    (fun vm₁ hW₁ => ⟨hf.1, hf.2, hp.2 (T.setVm vm₁) hT hW₁⟩) with ⟨v, vm₁, ⟨U', l2, c2, s2⟩, hW₁, X', ⟨g', mk, t, L, e1, e2, hq, h1, hL, h2, h3⟩, st⟩ | ⟨q, vm₁, ⟨U', l2, c2, s2⟩, hW₁, X', ⟨g', mk, t, L, E, ce, e1, e2, hq, hce, hcv, hcl, h1, hL, h2, h3⟩, st⟩
  · dsimp only [Pt.U, Pt.locs, Pt.cells, Pt.slots] at X' e1 e2 h1 h2 h3 st
    subst h1; subst h2; subst h3
    exact Or.inl ⟨v, (T.setVm vm₁).calling g' mk As.toArray, t, U', L, hT, X', hL, e1, e2, hq, st⟩
  · dsimp only [Pt.U, Pt.locs, Pt.cells, Pt.slots] at X' e1 e2 h1 h2 h3 st hcl
    subst h1; subst h2; subst h3
    exact Or.inr ⟨q, (T.setVm vm₁).calling g' mk As.toArray, t, U', L, E, ce, hT, X', hL, e1, e2, hq, hce, hcv, vx_cls hW₁ hcl, st⟩
end Runs
section Rows
variable {p : Program} {l : Launch} {e : Env} {R : Room} {s : State} {m : MethodId} {args : Array Value} {below : List Frame} {meth : Method} {c : Code} {H : Heap} {locs : List Loc} {cells slots : Nat} {Q : State → Prop}
variable {mc ms : Nat} {free : Addr → Prop} {A0 A1 : Nat → Prop} {H0 : Heap} {a : Array Value} {pc : Nat} {ls : Array Slot} {st0 rest : List Value}
theorem vx_keep {st₀ t T' : State} {L : List Loc} (h0 : st₀.heap = H) (e1 : T'.heap = t.heap) (hS : va_S A0 H0 H locs) (hA : ∀ q, q < H.size → A1 q → A0 q) (hf : ∀ q, free q → A0 q) (hL : ∀ q ∈ L, free q.base) (hF : va_F A1 st₀ t) :
    H.size ≤ T'.heap.size ∧ (∀ q : Nat, q < H.size → ¬ A1 q → T'.heap[q]? = H[q]?) ∧ va_S A0 H0 T'.heap (locs ++ L) := by
  obtain ⟨hz, hk⟩ := hF
  rw [h0] at hz hk
  exact ⟨by rw [e1]; exact hz, fun q h1 h2 => by rw [e1]; exact hk q h1 h2,
    ⟨Nat.le_trans hS.1 (by rw [e1]; exact hz), fun q h1 h2 => by rw [e1, hk q (Nat.lt_of_lt_of_le h1 hS.1) (fun z => h2 (hA q (Nat.lt_of_lt_of_le h1 hS.1) z))]; exact hS.2.1 q h1 h2, fun q hq => by
      rcases List.mem_append.mp hq with h | h
      · exact hS.2.2 q h
      · exact hf _ (hL q h)⟩⟩
theorem vx_calli {S SX : Type} {post : Int32 → S → Prop} {px : SX → Prop} {B : S → State → Prop} {BX : String → SX → State → Prop} {AX : Nat → Prop} (hr : vx_Run p l e R s m args below meth c H locs cells slots mc ms (F0 m pc ls st0) rest (va_Qi post B A1 a) (vx_X px BX AX) free) (hS : va_S A0 H0 H locs) (hA : ∀ q, q < H.size → A1 q → A0 q) (hf : ∀ q, free q → A0 q) (hAX : ∀ q, q < H.size → AX q → A0 q)
    (kx : ∀ (E : String) (ce : Cell) (q9 : Addr) (u : SX) (t : State) (H1 : Heap) (locs1 : List Loc), t.heap = H1 → s.vm.Alike t.vm → px u → BX E u t → H.size ≤ H1.size → (∀ q : Nat, q < H.size → ¬ AX q → H1[q]? = H[q]?) → va_S A0 H0 H1 locs1 → H1[q9]? = some ce → ce.vm = .none → s.vm.findClass E = some ce.cls → vx_W p l e R s m args below meth c H1 locs1 (cells + mc) (slots + ms) Q (F0 m pc ls rest) q9)
    (kk : ∀ (r : Int32) (u : S) (t : State) (H1 : Heap) (locs1 : List Loc), t.heap = H1 → s.vm.Alike t.vm → post r u → B u t → H.size ≤ H1.size → (∀ q : Nat, q < H.size → ¬ A1 q → H1[q]? = H[q]?) → va_S A0 H0 H1 locs1 → W p l e R s m args below meth c H1 locs1 (cells + mc) (slots + ms) Q (F0 m (pc + 3) ls (.int r :: rest))) : W p l e R s m args below meth c H locs cells slots Q (F0 m pc ls st0) := by
  intro T hT X
  rcases hr T hT X with ⟨v, st₀, t, T', L, h0, X', hL, e1, e2, ⟨⟨r, u, hv, hp, hb⟩, hF⟩, st⟩ | ⟨q, st₀, t, T', L, E, ce, h0, X', hL, e1, e2, ⟨u, hp, hb, hF⟩, hce, hcv, hcl, st⟩
  · cases hv
    obtain ⟨k1, k2, k3⟩ := vx_keep h0 e1 hS hA hf hL hF
    obtain ⟨t2, a1, b1⟩ := kk r u t T'.heap (locs ++ L) e1.symm (by rw [← e2]; exact X'.warmed.alike) hp hb k1 k2 k3 T' rfl X'
    exact ⟨t2, st t2 a1, b1⟩
  · obtain ⟨k1, k2, k3⟩ := vx_keep h0 e1 hS hAX hf hL hF
    obtain ⟨t2, a1, b1⟩ := kx E ce q u t T'.heap (locs ++ L) e1.symm (by rw [← e2]; exact X'.warmed.alike) hp hb k1 k2 k3 (by rw [e1]; exact hce) hcv hcl T' rfl X'
    exact ⟨t2, st.trans a1, b1⟩
theorem vx_calll {S SX : Type} {post : Int64 → S → Prop} {px : SX → Prop} {B : S → State → Prop} {BX : String → SX → State → Prop} {AX : Nat → Prop} (hr : vx_Run p l e R s m args below meth c H locs cells slots mc ms (F0 m pc ls st0) rest (va_Ql post B A1 a) (vx_X px BX AX) free) (hS : va_S A0 H0 H locs) (hA : ∀ q, q < H.size → A1 q → A0 q) (hf : ∀ q, free q → A0 q) (hAX : ∀ q, q < H.size → AX q → A0 q)
    (kx : ∀ (E : String) (ce : Cell) (q9 : Addr) (u : SX) (t : State) (H1 : Heap) (locs1 : List Loc), t.heap = H1 → s.vm.Alike t.vm → px u → BX E u t → H.size ≤ H1.size → (∀ q : Nat, q < H.size → ¬ AX q → H1[q]? = H[q]?) → va_S A0 H0 H1 locs1 → H1[q9]? = some ce → ce.vm = .none → s.vm.findClass E = some ce.cls → vx_W p l e R s m args below meth c H1 locs1 (cells + mc) (slots + ms) Q (F0 m pc ls rest) q9)
    (kk : ∀ (r : Int64) (u : S) (t : State) (H1 : Heap) (locs1 : List Loc), t.heap = H1 → s.vm.Alike t.vm → post r u → B u t → H.size ≤ H1.size → (∀ q : Nat, q < H.size → ¬ A1 q → H1[q]? = H[q]?) → va_S A0 H0 H1 locs1 → W p l e R s m args below meth c H1 locs1 (cells + mc) (slots + ms) Q (F0 m (pc + 3) ls (.long r :: rest))) : W p l e R s m args below meth c H locs cells slots Q (F0 m pc ls st0) := by
  intro T hT X
  rcases hr T hT X with ⟨v, st₀, t, T', L, h0, X', hL, e1, e2, ⟨⟨r, u, hv, hp, hb⟩, hF⟩, st⟩ | ⟨q, st₀, t, T', L, E, ce, h0, X', hL, e1, e2, ⟨u, hp, hb, hF⟩, hce, hcv, hcl, st⟩
  · cases hv
    obtain ⟨k1, k2, k3⟩ := vx_keep h0 e1 hS hA hf hL hF
    obtain ⟨t2, a1, b1⟩ := kk r u t T'.heap (locs ++ L) e1.symm (by rw [← e2]; exact X'.warmed.alike) hp hb k1 k2 k3 T' rfl X'
    exact ⟨t2, st t2 a1, b1⟩
  · obtain ⟨k1, k2, k3⟩ := vx_keep h0 e1 hS hAX hf hL hF
    obtain ⟨t2, a1, b1⟩ := kx E ce q u t T'.heap (locs ++ L) e1.symm (by rw [← e2]; exact X'.warmed.alike) hp hb k1 k2 k3 (by rw [e1]; exact hce) hcv hcl T' rfl X'
    exact ⟨t2, st.trans a1, b1⟩
theorem vx_callf {S SX : Type} {post : UInt32 → S → Prop} {px : SX → Prop} {B : S → State → Prop} {BX : String → SX → State → Prop} {AX : Nat → Prop} (hr : vx_Run p l e R s m args below meth c H locs cells slots mc ms (F0 m pc ls st0) rest (va_Qf post B A1 a) (vx_X px BX AX) free) (hS : va_S A0 H0 H locs) (hA : ∀ q, q < H.size → A1 q → A0 q) (hf : ∀ q, free q → A0 q) (hAX : ∀ q, q < H.size → AX q → A0 q)
    (kx : ∀ (E : String) (ce : Cell) (q9 : Addr) (u : SX) (t : State) (H1 : Heap) (locs1 : List Loc), t.heap = H1 → s.vm.Alike t.vm → px u → BX E u t → H.size ≤ H1.size → (∀ q : Nat, q < H.size → ¬ AX q → H1[q]? = H[q]?) → va_S A0 H0 H1 locs1 → H1[q9]? = some ce → ce.vm = .none → s.vm.findClass E = some ce.cls → vx_W p l e R s m args below meth c H1 locs1 (cells + mc) (slots + ms) Q (F0 m pc ls rest) q9)
    (kk : ∀ (r : UInt32) (u : S) (t : State) (H1 : Heap) (locs1 : List Loc), t.heap = H1 → s.vm.Alike t.vm → post r u → B u t → H.size ≤ H1.size → (∀ q : Nat, q < H.size → ¬ A1 q → H1[q]? = H[q]?) → va_S A0 H0 H1 locs1 → W p l e R s m args below meth c H1 locs1 (cells + mc) (slots + ms) Q (F0 m (pc + 3) ls (.float r :: rest))) : W p l e R s m args below meth c H locs cells slots Q (F0 m pc ls st0) := by
  intro T hT X
  rcases hr T hT X with ⟨v, st₀, t, T', L, h0, X', hL, e1, e2, ⟨⟨r, u, hv, hp, hb⟩, hF⟩, st⟩ | ⟨q, st₀, t, T', L, E, ce, h0, X', hL, e1, e2, ⟨u, hp, hb, hF⟩, hce, hcv, hcl, st⟩
  · cases hv
    obtain ⟨k1, k2, k3⟩ := vx_keep h0 e1 hS hA hf hL hF
    obtain ⟨t2, a1, b1⟩ := kk r u t T'.heap (locs ++ L) e1.symm (by rw [← e2]; exact X'.warmed.alike) hp hb k1 k2 k3 T' rfl X'
    exact ⟨t2, st t2 a1, b1⟩
  · obtain ⟨k1, k2, k3⟩ := vx_keep h0 e1 hS hAX hf hL hF
    obtain ⟨t2, a1, b1⟩ := kx E ce q u t T'.heap (locs ++ L) e1.symm (by rw [← e2]; exact X'.warmed.alike) hp hb k1 k2 k3 (by rw [e1]; exact hce) hcv hcl T' rfl X'
    exact ⟨t2, st.trans a1, b1⟩
theorem vx_calld {S SX : Type} {post : UInt64 → S → Prop} {px : SX → Prop} {B : S → State → Prop} {BX : String → SX → State → Prop} {AX : Nat → Prop} (hr : vx_Run p l e R s m args below meth c H locs cells slots mc ms (F0 m pc ls st0) rest (va_Qd post B A1 a) (vx_X px BX AX) free) (hS : va_S A0 H0 H locs) (hA : ∀ q, q < H.size → A1 q → A0 q) (hf : ∀ q, free q → A0 q) (hAX : ∀ q, q < H.size → AX q → A0 q)
    (kx : ∀ (E : String) (ce : Cell) (q9 : Addr) (u : SX) (t : State) (H1 : Heap) (locs1 : List Loc), t.heap = H1 → s.vm.Alike t.vm → px u → BX E u t → H.size ≤ H1.size → (∀ q : Nat, q < H.size → ¬ AX q → H1[q]? = H[q]?) → va_S A0 H0 H1 locs1 → H1[q9]? = some ce → ce.vm = .none → s.vm.findClass E = some ce.cls → vx_W p l e R s m args below meth c H1 locs1 (cells + mc) (slots + ms) Q (F0 m pc ls rest) q9)
    (kk : ∀ (r : UInt64) (u : S) (t : State) (H1 : Heap) (locs1 : List Loc), t.heap = H1 → s.vm.Alike t.vm → post r u → B u t → H.size ≤ H1.size → (∀ q : Nat, q < H.size → ¬ A1 q → H1[q]? = H[q]?) → va_S A0 H0 H1 locs1 → W p l e R s m args below meth c H1 locs1 (cells + mc) (slots + ms) Q (F0 m (pc + 3) ls (.double r :: rest))) : W p l e R s m args below meth c H locs cells slots Q (F0 m pc ls st0) := by
  intro T hT X
  rcases hr T hT X with ⟨v, st₀, t, T', L, h0, X', hL, e1, e2, ⟨⟨r, u, hv, hp, hb⟩, hF⟩, st⟩ | ⟨q, st₀, t, T', L, E, ce, h0, X', hL, e1, e2, ⟨u, hp, hb, hF⟩, hce, hcv, hcl, st⟩
  · cases hv
    obtain ⟨k1, k2, k3⟩ := vx_keep h0 e1 hS hA hf hL hF
    obtain ⟨t2, a1, b1⟩ := kk r u t T'.heap (locs ++ L) e1.symm (by rw [← e2]; exact X'.warmed.alike) hp hb k1 k2 k3 T' rfl X'
    exact ⟨t2, st t2 a1, b1⟩
  · obtain ⟨k1, k2, k3⟩ := vx_keep h0 e1 hS hAX hf hL hF
    obtain ⟨t2, a1, b1⟩ := kx E ce q u t T'.heap (locs ++ L) e1.symm (by rw [← e2]; exact X'.warmed.alike) hp hb k1 k2 k3 (by rw [e1]; exact hce) hcv hcl T' rfl X'
    exact ⟨t2, st.trans a1, b1⟩
theorem vx_callv {S SX : Type} {post : S → Prop} {px : SX → Prop} {B : S → State → Prop} {BX : String → SX → State → Prop} {AX : Nat → Prop} (hr : vx_Run p l e R s m args below meth c H locs cells slots mc ms (F0 m pc ls st0) rest (va_Qv post B A1 a) (vx_X px BX AX) free) (hS : va_S A0 H0 H locs) (hA : ∀ q, q < H.size → A1 q → A0 q) (hf : ∀ q, free q → A0 q) (hAX : ∀ q, q < H.size → AX q → A0 q)
    (kx : ∀ (E : String) (ce : Cell) (q9 : Addr) (u : SX) (t : State) (H1 : Heap) (locs1 : List Loc), t.heap = H1 → s.vm.Alike t.vm → px u → BX E u t → H.size ≤ H1.size → (∀ q : Nat, q < H.size → ¬ AX q → H1[q]? = H[q]?) → va_S A0 H0 H1 locs1 → H1[q9]? = some ce → ce.vm = .none → s.vm.findClass E = some ce.cls → vx_W p l e R s m args below meth c H1 locs1 (cells + mc) (slots + ms) Q (F0 m pc ls rest) q9)
    (kk : ∀ (u : S) (t : State) (H1 : Heap) (locs1 : List Loc), t.heap = H1 → s.vm.Alike t.vm → post u → B u t → H.size ≤ H1.size → (∀ q : Nat, q < H.size → ¬ A1 q → H1[q]? = H[q]?) → va_S A0 H0 H1 locs1 → W p l e R s m args below meth c H1 locs1 (cells + mc) (slots + ms) Q (F0 m (pc + 3) ls (rest))) : W p l e R s m args below meth c H locs cells slots Q (F0 m pc ls st0) := by
  intro T hT X
  rcases hr T hT X with ⟨v, st₀, t, T', L, h0, X', hL, e1, e2, ⟨⟨u, hv, hp, hb⟩, hF⟩, st⟩ | ⟨q, st₀, t, T', L, E, ce, h0, X', hL, e1, e2, ⟨u, hp, hb, hF⟩, hce, hcv, hcl, st⟩
  · cases hv
    obtain ⟨k1, k2, k3⟩ := vx_keep h0 e1 hS hA hf hL hF
    obtain ⟨t2, a1, b1⟩ := kk u t T'.heap (locs ++ L) e1.symm (by rw [← e2]; exact X'.warmed.alike) hp hb k1 k2 k3 T' rfl X'
    exact ⟨t2, st t2 a1, b1⟩
  · obtain ⟨k1, k2, k3⟩ := vx_keep h0 e1 hS hAX hf hL hF
    obtain ⟨t2, a1, b1⟩ := kx E ce q u t T'.heap (locs ++ L) e1.symm (by rw [← e2]; exact X'.warmed.alike) hp hb k1 k2 k3 (by rw [e1]; exact hce) hcv hcl T' rfl X'
    exact ⟨t2, st.trans a1, b1⟩
/-- caught by the row x of this method's table; the rows ahead don't take it -/
theorem vx_catch {own name : String} {E : String} {ce : Cell} {q : Addr} (hown : s.vm.findClass own = some m.cls) (pre : List ExceptionTableEntry) (x : ExceptionTableEntry) (suf : List ExceptionTableEntry) (hsplit : c.exceptionTable.toList = pre ++ x :: suf)
    (hpass : ∀ z ∈ pre, covers z pc = false ∨ (z.catchType ≠ 0 ∧ ∃ nm : String, (Cond.classLink own z.catchType nm).before args s = true ∧ va_Nc E nm s)) (hx : covers x pc = true) (h0 : x.catchType ≠ 0)
    (hlink : (Cond.classLink own x.catchType name).before args s = true) (hcast : (Cond.castable E name).before args s = true) (hcell : H[q]? = some ce) (hv : ce.vm = .none) (hcl : s.vm.findClass E = some ce.cls)
    (kk : W p l e R s m args below meth c H locs cells slots Q (F0 m x.handlerPc ls [.ref q])) : vx_W p l e R s m args below meth c H locs cells slots Q (F0 m pc ls rest) q := by
  intro T hT X
  have hpl : e.platform.magicAccessors = ({} : Platform).magicAccessors := by rw [X.admits.platform]
  obtain ⟨c3, c4, hc3, hc4, hasg⟩ := Cond.castable_spec hcast
  cases Option.some.inj (hc3.symm.trans hcl)
  obtain ⟨c5, hc5, hcl5⟩ := Cond.classLink_spec hown hlink e.platform hpl
  cases Option.some.inj (hc4.symm.trans hc5)
  obtain ⟨vm', X', st⟩ := X.thenCaughtThrough q (g := F0 m pc ls rest) rfl (Steps.refl _) (by rw [hT]; exact hcell) (by rw [hv]; rfl) (by obtain ⟨k9, h9, -⟩ := Vm.findClass_spec hcl; exact ⟨k9, h9⟩) pre x suf hsplit
    (fun z hz => by
      rcases hpass z hz with h | ⟨hz0, nm, hl1, hn1⟩
      · exact Or.inl h
      · obtain ⟨c6, hc6, hcl6⟩ := Cond.classLink_spec hown hl1 e.platform hpl
        obtain ⟨a8, b8, h1, h2, h3⟩ := hn1
        cases Option.some.inj (h1.symm.trans hcl)
        cases Option.some.inj (h2.symm.trans hc6)
        exact Or.inr ⟨hz0, _, hcl6, h3⟩) hx (Or.inr ⟨h0, c4, hcl5, hasg⟩)
  obtain ⟨t, a1, b1⟩ := kk (T.setVm vm') hT X'
  exact ⟨t, st.trans a1, b1⟩
end Rows
section Ends
variable {p : Program} {l : Launch} {e : Env} {R : Room} {s : State} {m : MethodId} {args : Array Value} {below : List Frame} {meth : Method} {c : Code} {H : Heap} {locs : List Loc} {cells slots : Nat} {Q : State → Prop}
variable {mc ms : Nat} {free : Addr → Prop} {A0 A1 : Nat → Prop} {H0 : Heap} {a : Array Value} {ls : Array Slot} {st0 rest : List Value}
variable {Qc : Array Value → State → Outcome → State → Prop} {XC : String → State → State → Prop}
/-- what a body that may throw owes at its end -/
def vx_MQ (below : List Frame) (Qc : Array Value → State → Outcome → State → Prop) (XC : String → State → State → Prop) (a : Array Value) (s : State) (mc ms : Nat) (free : Addr → Prop) : State → Prop := fun t =>
  ∃ o, t.status = .running ∧ Ended t below o ∧ vx_Q Qc XC mc ms free a s o t
theorem vx_ret {g : JFrame} {mc ms : Nat} (k : W p l e R s m args below meth c H locs cells slots (MQ below Qc args s mc ms free) g) : W p l e R s m args below meth c H locs cells slots (vx_MQ below Qc XC args s mc ms free) g := by
  intro T hT X
  obtain ⟨t, a1, o, b1, b2, b3, b4⟩ := k T hT X
  exact ⟨t, a1, o, b1, b2, Or.inl ⟨b3, b4⟩⟩
/-- not caught here: it goes on to the caller -/
theorem vx_widen {g : JFrame} {q : Addr} {k n : Nat} (h1 : cells ≤ k) (h2 : slots ≤ n) (kk : vx_W p l e R s m args below meth c H locs k n Q g q) : vx_W p l e R s m args below meth c H locs cells slots Q g q := fun T hT X => kk T hT (stand_widen X h1 h2)
theorem vx_out {pc : Nat} {E : String} {ce : Cell} {q : Addr} {mc ms : Nat} (hout : ∀ x ∈ c.exceptionTable.toList, covers x pc = false) (hlocks : meth.locks = false) (hcell : H[q]? = some ce) (hv : ce.vm = .none) (hcl : s.vm.findClass E = some ce.cls)
    (hx : ∀ t : State, t.heap = H → s.vm.Alike t.vm → XC E s t) (hf : ∀ z ∈ locs, free z.base) (hc : cells ≤ mc) (hs : slots ≤ ms) :
    vx_W p l e R s m args below meth c H locs cells slots (vx_MQ below Qc XC args s mc ms free) (F0 m pc ls rest) q := by
  intro T hT X
  obtain ⟨st1, hrun, hend, hW, hsm⟩ := X.leaveThrown q (g := F0 m pc ls rest) rfl rfl rfl hout hlocks
  have hcell9 : (T.setFrames (.throwing q :: below)).heap[q]? = some ce := by
    show T.heap[q]? = some ce
    rw [hT]; exact hcell
  exact ⟨_, st1, .threw q, hrun, hend, Or.inr ⟨q, rfl, E, ce, locs, hx _ hT hW.alike, hcell9, hv, hcl, hW, hsm.mono hc hs, hf⟩⟩
theorem vx_frame {U : State} {k n : Nat} (h : s.sameButNew ({ U with vm := s.vm } : State) locs k n) : s.heap.size ≤ U.heap.size ∧ ∀ q : Nat, q < s.heap.size → (∀ z ∈ locs, z.base ≠ q) → U.heap[q]? = s.heap[q]? := by
  obtain ⟨-, h2, -, -, -, h6⟩ := h
  refine ⟨h2, fun q hq hz => ?_⟩
  obtain ⟨c9, e1, e2, e3, e4⟩ := h6 q _ (Array.getElem?_eq_getElem hq)
  have hs : c9.slots = (s.heap[q]).slots := Array.ext_getElem? fun i => e4 i fun hm => hz _ hm rfl
  have h9 : c9 = s.heap[q] := by
    rw [hs] at e2
    exact e2
  have e5 : U.heap[q]? = some c9 := e1
  rw [e5, h9, Array.getElem?_eq_getElem hq]
/-- the words of a throw but the four that speak of the heap -/
def vx_no (w : Cond) : Bool := decide (w ≠ .isRef (.static Bundle.tN "UNASSIGNED_STACK" Bundle.steD)) && decide (w ≠ .isRef (.static Bundle.tN "SUPPRESSED_SENTINEL" Bundle.listD)) && decide (w ≠ .laysStatic Bundle.tN "UNASSIGNED_STACK" Bundle.steD) && decide (w ≠ .laysStatic Bundle.tN "SUPPRESSED_SENTINEL" Bundle.listD)
def vx_at0 (own : String) (ic : Nat) (X : String) (names : List String) : List Cond := (Bundle.ownAtoms0 own ic X names).filter vx_no
def vx_atS (own : String) (ic : Nat) (X : String) (names : List String) : List Cond := (Bundle.ownAtoms own ic X names).filter vx_no
/-- a word that the tables alone decide, or a good one -/
def vx_ot (w : Cond) : Bool := w.onTables || goodWord w
theorem vx_ot_at {args a' : Array Value} {s U : State} {w : Cond} (hW : s.WarmedH U.vm) (hvm : s.vm = U.vm) (hg : vx_ot w = true) (h : w.before args s = true) : w.before a' U = true := by
  simp only [vx_ot, Bool.or_eq_true] at hg
  rcases hg with hg | hg
  · exact va_tabs hg hvm h
  · exact word_at hW (good_of_word hg) h
/-- a list's words: the good ones out of the method's own list, the others by premises of their own -/
theorem vx_hat {args : Array Value} {s : State} {L B : List Cond} (h1 : ∀ w ∈ L.filter goodWord, w.before args s = true) (h2 : ∀ w ∈ L.filter (fun w => !goodWord w), w ∈ B) (h3 : ∀ w ∈ B, w.before args s = true) : ∀ w ∈ L, w.before args s = true := by
  intro w hw
  by_cases g : goodWord w = true
  · exact h1 w (List.mem_filter.mpr ⟨hw, g⟩)
  · refine h3 w (h2 w (List.mem_filter.mpr ⟨hw, ?_⟩))
    show (!goodWord w) = true
    cases hgw : goodWord w
    · rfl
    · exact absurd hgw g
theorem vx_c {args : Array Value} {s : State} {w : Cond} {B : List Cond} (h : w.before args s = true) (t : ∀ w ∈ B, w.before args s = true) : ∀ w' ∈ w :: B, w'.before args s = true := fun w' h' => (List.mem_cons.mp h').elim (fun e => by rw [e]; exact h) (t w')
theorem vx_n {args : Array Value} {s : State} : ∀ w ∈ ([] : List Cond), w.before args s = true := fun _ h => nomatch h
theorem vx_own {args : Array Value} {s : State} {L : List Cond} (h1 : ∀ w ∈ L.filter vx_no, w.before args s = true)
    (hU : (Cond.isRef (.static Bundle.tN "UNASSIGNED_STACK" Bundle.steD)).before args s = true) (hN : (Cond.isRef (.static Bundle.tN "SUPPRESSED_SENTINEL" Bundle.listD)).before args s = true)
    (lU : (Cond.laysStatic Bundle.tN "UNASSIGNED_STACK" Bundle.steD).before args s = true) (lN : (Cond.laysStatic Bundle.tN "SUPPRESSED_SENTINEL" Bundle.listD).before args s = true) : ∀ w ∈ L, w.before args s = true := by
  intro w hw
  by_cases e1 : w = .isRef (.static Bundle.tN "UNASSIGNED_STACK" Bundle.steD)
  · rw [e1]; exact hU
  · by_cases e2 : w = .isRef (.static Bundle.tN "SUPPRESSED_SENTINEL" Bundle.listD)
    · rw [e2]; exact hN
    · by_cases e3 : w = .laysStatic Bundle.tN "UNASSIGNED_STACK" Bundle.steD
      · rw [e3]; exact lU
      · by_cases e4 : w = .laysStatic Bundle.tN "SUPPRESSED_SENTINEL" Bundle.listD
        · rw [e4]; exact lN
        · exact h1 w (List.mem_filter.mpr ⟨hw, by unfold vx_no; rw [decide_eq_true e1, decide_eq_true e2, decide_eq_true e3, decide_eq_true e4]; rfl⟩)
/-- where a static field lies, its class's statics cell in H -/
def vx_L (C n d : String) (A : Nat → Prop) (U : State) (H : Heap) : Prop := ∃ (c : ClassId) (k : Class) (i : Nat) (f : Field) (a : Nat) (cell : Cell), U.vm.findClass C = some c ∧ U.fieldFound? C n d = some (c, k, i, f) ∧ f.isStatic = true ∧ k.statics = some a ∧ H[a]? = some cell ∧ cell.vm.isStatics = true ∧ cell.cls = c ∧ f.slot < cell.slots.size ∧ k.staticTypes[f.slot]? = some f.type ∧ ¬ A a
theorem vx_L.moved {C n d : String} {A : Nat → Prop} {u U : State} {H : Heap} (hvm : u.vm.Alike U.vm) (h : vx_L C n d A u H) : vx_L C n d A U H := by
  obtain ⟨c, k, i, f, a, cell, h1, h2, h3, h4, h5, h6, h7, h8, h9, h10⟩ := h
  obtain ⟨k', hi', he⟩ := State.fieldFound?_setVm hvm h2
  exact ⟨c, k', i, f, a, cell, by rw [hvm.findClass]; exact h1, hi', h3, by rw [he]; exact h4, h5, h6, h7, h8, by rw [he]; exact h9, h10⟩
theorem vx_L.kept {C n d : String} {A : Nat → Prop} {U : State} {H H1 : Heap} (h : vx_L C n d A U H) (hq : ∀ a : Nat, a < H.size → ¬ A a → H1[a]? = H[a]?) : vx_L C n d A U H1 := by
  obtain ⟨c, k, i, f, a, cell, h1, h2, h3, h4, h5, h6, h7, h8, h9, h10⟩ := h
  exact ⟨c, k, i, f, a, cell, h1, h2, h3, h4, by rw [hq a (Array.getElem?_eq_some_iff.mp h5).1 h10]; exact h5, h6, h7, h8, h9, h10⟩
theorem vx_L.narrow {C n d : String} {A B : Nat → Prop} {U : State} {H : Heap} (h : vx_L C n d A U H) (hAB : ∀ q, B q → A q) : vx_L C n d B U H := by
  obtain ⟨c, k, i, f, a, cell, h1, h2, h3, h4, h5, h6, h7, h8, h9, h10⟩ := h
  exact ⟨c, k, i, f, a, cell, h1, h2, h3, h4, h5, h6, h7, h8, h9, fun z => h10 (hAB _ z)⟩
theorem vx_L.word {C n d : String} {A : Nat → Prop} {s : State} {args : Array Value} (h : vx_L C n d A s s.heap) : (Cond.laysStatic C n d).before args s = true := by
  obtain ⟨c, k, i, f, a, cell, h1, h2, h3, h4, h5, h6, h7, h8, h9, -⟩ := h
  show (Cond.laysStatic C n d).holds args s none s [] = true
  exact Cond.laysStatic_of h1 h2 h3 h4 h5 h6 h7 h8 h9
/-- .. and what it holds: null or some reference -/
def vx_Zq (C n d : String) (A : Nat → Prop) (U : State) (H : Heap) : Prop := va_Zq C n d A U H ∧ vx_L C n d A U H
theorem vx_Zq.moved {C n d : String} {A : Nat → Prop} {u U : State} {H : Heap} (hvm : u.vm.Alike U.vm) (h : vx_Zq C n d A u H) : vx_Zq C n d A U H := ⟨va_Zq.moved hvm h.1, vx_L.moved hvm h.2⟩
theorem vx_Zq.kept {C n d : String} {A : Nat → Prop} {U : State} {H H1 : Heap} (h : vx_Zq C n d A U H) (hq : ∀ a : Nat, a < H.size → ¬ A a → H1[a]? = H[a]?) : vx_Zq C n d A U H1 := ⟨va_Zq.kept h.1 hq, vx_L.kept h.2 hq⟩
theorem vx_Zq.narrow {C n d : String} {A B : Nat → Prop} {U : State} {H : Heap} (h : vx_Zq C n d A U H) (hAB : ∀ q, B q → A q) : vx_Zq C n d B U H := ⟨va_Zq.narrow h.1 hAB, vx_L.narrow h.2 hAB⟩
theorem vx_Zqof {args : Array Value} {s : State} {C n d : String} {A : Nat → Prop} (hl : (Cond.laysStatic C n d).before args s = true) (hini : (Cond.initialized C).before args s = true) (h : (Cond.isRef (.static C n d)).before args s = true) (hA : ∀ a : Nat, a < s.heap.size → ¬ A a) : vx_Zq C n d A s s.heap := by
  refine ⟨va_Zqof hl hini h hA, ?_⟩
  obtain ⟨c, k, i, f, a, cell, h1, h2, h3, h4, h5, h6, h7, h8, h9⟩ := Cond.laysStatic_spec hl
  exact ⟨c, k, i, f, a, cell, h1, h2, h3, h4, h5, h6, h7, h8, h9, hA a (Array.getElem?_eq_some_iff.mp h5).1⟩
theorem vx_isRef {C n d : String} {v : Value} {A : Nat → Prop} {s : State} {args : Array Value} (h : va_Z C n d v A s s.heap) (hv : v.isRef = true) : (Cond.isRef (.static C n d)).before args s = true := by
  obtain ⟨cf, kf, fi, f, a, cell, h1, h2, h3, h4, h5, h6, h7, -⟩ := h
  have he : (Term.static C n d).eval args s none [] s = some v := by
    simp [Term.eval, State.fieldNamed?, h1, h2, h4, h5, h6, h7]
  simp only [Cond.before, Cond.holds, Cond.value, he]
  cases v <;> simp_all [Value.isRef]
theorem vx_isRefq {C n d : String} {A : Nat → Prop} {s : State} {args : Array Value} (h : va_Zq C n d A s s.heap) : (Cond.isRef (.static C n d)).before args s = true := by
  rcases h with h | ⟨t, h⟩
  · exact vx_isRef h rfl
  · exact vx_isRef h rfl
/-- the same frame, seen from here: as if the method were called anew in this heap -/
theorem vx_rebase {T : State} (X : Stand p l e R s m args below meth c T locs cells slots) {R' : Room} (hf : R'.frames ≤ R.frames) (hl : R'.locals ≤ R.locals) (hc : cells + R'.cells ≤ R.cells) (hs : slots + R'.slots ≤ R.slots) :
    Stand p l e R' ((T.setVm s.vm).setFrames (.invoking m args :: below)) m args below meth c T [] 0 0 := by
  have htop : (T.setVm s.vm).topJava?.isSome := X.here.top
  have hF : ((T.setVm s.vm).setFrames (.invoking m args :: below)).frames = .invoking m args :: below := State.frames_setFrames _ (State.cur_lt_of_top htop)
  obtain ⟨g₀, hg0⟩ := Option.isSome_iff_exists.mp htop
  obtain ⟨r, hr⟩ := State.topJava?_eq_some.mp hg0
  have hl9 : e.platform.stackLimits (T.setVm s.vm).me = e.platform.stackLimits s.me := X.limits
  have hb9 : (T.setVm s.vm).me.stackBytes = s.me.stackBytes := X.bytes
  refine ⟨X.admits, X.cas, X.clock, hF, ?_, X.hears, X.method, X.code, X.here, X.tail, X.warmed, ?_, ?_, ?_⟩
  · have h := X.room
    have hU : ((T.setVm s.vm).setFrames (.invoking m args :: below)).localsInUse = s.localsInUse := by
      rw [State.localsInUse_invoking hF (meth := meth) (c := c) X.method X.code, State.localsInUse_invoking X.frames X.method X.code]
    simp only [State.hasRoom, Bool.and_eq_true, decide_eq_true_eq] at h ⊢
    obtain ⟨⟨⟨⟨h1, h2, h3, h4, h5, h6⟩, h7⟩, h8⟩, h9⟩ := h
    rw [X.frames, List.length_cons] at h2 h3
    have q1 := X.heapSize
    have q2 := X.used
    simp only [hF, hU, List.length_cons, State.stackLimits_setFrames, State.stackBytes_setFrames, hl9, hb9]
    refine ⟨⟨⟨⟨by omega, by omega, by omega, by omega, by omega, h6⟩, ?_⟩, ?_⟩, X.book⟩
    · show T.heap.size + R'.cells ≤ e.platform.maxCells
      omega
    · show T.slotsUsed + R'.slots ≤ e.platform.maxSlots
      omega
  · rw [State.stackLimits_setFrames]; rfl
  · rw [State.stackBytes_setFrames]; rfl
  · refine ⟨?_, Nat.le_refl _, Nat.le_refl _, ?_, ?_, fun a c9 h9 => ⟨c9, h9, rfl, rfl, fun _ _ => rfl⟩⟩
    · obtain ⟨t, ht, -⟩ := State.frames_cons hr
      show T.setVm s.vm = { ((T.setVm s.vm).setFrames (.invoking m args :: below)).setFrames (T.setVm s.vm).frames with heap := T.heap, slotsUsed := T.slotsUsed }
      rw [State.setFrames_setFrames, State.setFrames_self ht]
      rfl
    · show T.slotsUsed = T.slotsUsed + ((T.heap.toList.drop T.heap.size).map (·.slots.size)).sum
      rw [List.drop_eq_nil_of_le (Nat.le_of_eq Array.length_toList)]
      rfl
    · show ((T.heap.toList.drop T.heap.size).map (·.slots.size)).sum ≤ 0
      rw [List.drop_eq_nil_of_le (Nat.le_of_eq Array.length_toList)]
      exact Nat.le_refl _
/-- 'throw new E()': new; dup; invokespecial; athrow -/
theorem vx_throw0 {cc : ByteArray} {pc : Nat} (hexec : p.tables.exec = Jvm.exec) (hb : c.code = cc) (hl : l.stackTraces = false) {own cls : String} {names : List String} {ik ic mc ms : Nat} {A : Nat → Prop}
    (hown : s.vm.findClass own = some m.cls) (hcls : Bundle.fit cls = true) (hnames : ∀ n ∈ names, Bundle.fit n = true)
    (hk : (Cond.classLink own ik cls).before args s = true) (hini : (Cond.initialized cls).before args s = true) (hat : ∀ w ∈ vx_at0 own ic cls names, w.before args s = true)
    (hgood : ∀ w ∈ Cond.classLink own ik cls :: Cond.initialized cls :: vx_at0 own ic cls names, vx_ot w = true)
    (hU : vx_Zq Bundle.tN "UNASSIGNED_STACK" Bundle.steD A s s.heap) (hN : vx_Zq Bundle.tN "SUPPRESSED_SENTINEL" Bundle.listD A s s.heap) (hS : va_S A s.heap H locs) (hsize : ls.size = c.maxLocals)
    (d0 : decode cc pc = .ok (.new ik, 3)) (d3 : decode cc (pc + 3) = .ok (.dup, 1)) (d4 : decode cc (pc + 4) = .ok (.invokespecial ic, 3)) (d7 : decode cc (pc + 7) = .ok (.athrow, 1))
    (hout : ∀ x ∈ c.exceptionTable.toList, covers x (pc + 7) = false)
    (hRframes : names.length + 3 < R.frames) (hRlocals : (rest.map fun v => v.category).sum + (13 * (names.length + 1) + 42) ≤ R.locals) (hRcells : cells + 1 ≤ R.cells) (hRslots : slots + 6 ≤ R.slots) (hlocks : meth.locks = false)
    (hx : ∀ t : State, s.vm.Alike t.vm → H.size ≤ t.heap.size → (∀ q : Nat, q < H.size → t.heap[q]? = H[q]?) → XC cls s t)
    (hf : ∀ z ∈ locs, free z.base) (hc : cells + 1 ≤ mc) (hs : slots + 6 ≤ ms) :
    W p l e R s m args below meth c H locs cells slots (vx_MQ below Qc XC args s mc ms free) (F0 m pc ls rest) := by
  intro T hT X
  have htr : e.platform.stackTraces = false := (show e.platform.stackTraces = l.stackTraces by rw [X.admits.platform]).trans hl
  have Y := vx_rebase X (R' := { frames := R.frames, locals := R.locals, cells := 1, slots := 6 }) (Nat.le_refl _) (Nat.le_refl _) hRcells hRslots
  obtain ⟨s', hA⟩ : ∃ z, z = (T.setVm s.vm).setFrames (.invoking m args :: below) := ⟨_, rfl⟩
  rw [← hA] at Y
  have hvm : s'.vm = s.vm := by rw [hA]; rfl
  have hhp : s'.heap = H := by rw [hA]; exact hT
  have hW0 : s.WarmedH s'.vm := by rw [hvm]; exact State.WarmedH.refl s
  have hat' : ∀ w ∈ vx_at0 own ic cls names, w.before args s' = true := fun w hw => vx_ot_at hW0 hvm.symm (hgood w (List.mem_cons_of_mem _ (List.mem_cons_of_mem _ hw))) (hat w hw)
  have hk' : (Cond.classLink own ik cls).before args s' = true := vx_ot_at hW0 hvm.symm (hgood _ List.mem_cons_self) hk
  have hini' : (Cond.initialized cls).before args s' = true := vx_ot_at hW0 hvm.symm (hgood _ (List.mem_cons_of_mem _ List.mem_cons_self)) hini
  have hU' : vx_Zq Bundle.tN "UNASSIGNED_STACK" Bundle.steD A s' s'.heap := by rw [hhp]; exact vx_Zq.moved hW0.alike (hU.kept hS.2.1)
  have hN' : vx_Zq Bundle.tN "SUPPRESSED_SENTINEL" Bundle.listD A s' s'.heap := by rw [hhp]; exact vx_Zq.moved hW0.alike (hN.kept hS.2.1)
  have h : ∀ w ∈ Bundle.ownAtoms0 own ic cls names, w.before args s' = true := vx_own hat' (vx_isRefq hU'.1) (vx_isRefq hN'.1) hU'.2.word hN'.2.word
  have hown' : s'.vm.findClass own = some m.cls := by rw [hvm]; exact hown
  have hins : (Cond.instantiable cls 6).before args s' = true := h _ (by simp [Bundle.ownAtoms0])
  obtain ⟨vm₁, cX, kX, hfX, hkX, -, -, X₁, st1⟩ := Y.newCold hexec (own := own) (C := cls) (index := ik) (n := 6) hown' hk' hins hini'
    (g := F0 m pc ls rest) rfl (by rw [hb]; exact d0) (Nat.le_refl _) (Nat.le_refl _)
  generalize hT1 : (T.setVm vm₁).pushCell { cls := cX, slots := kX.instanceTypes.map defaultValue, vm := .none } = T1 at X₁ st1
  have hcat : (Value.ref T.heap.size).category = 1 := rfl
  have hcellA : T1.heap[T.heap.size]? = some (freshCell cX kX) := by rw [← hT1]; exact State.heap_pushCell_size _ _
  have d3' : decode c.code (pc + 3) = .ok (.dup, 1) := by rw [hb]; exact d3
  obtain ⟨U, hsteps, hrun, hend, hW, hsame, ce, hce, hO⟩ := X₁.ctorThrow0 hexec htr (own := own) (cls := cls) (names := names) (ic := ic) hown' hcls hnames h (fun x hx => nomatch hx) hfX hkX hcellA (by rw [hhp, hT]; exact Nat.le_refl _)
    (g := { method := m, pc := pc + 4, locals := ls, stack := .ref T.heap.size :: .ref T.heap.size :: rest, locked := none }) rfl hsize rfl rfl (rest := rest) rfl
    (by rw [hb]; exact d4) (by rw [hb]; exact d7) hout hRframes (by simp only [List.map_cons, List.sum_cons, hcat]; omega) hlocks
  obtain ⟨f1, f2⟩ := vx_frame hsame
  rw [hhp] at f1 f2
  have hWs : s.WarmedH U.vm := State.WarmedH.trans hW0 hW
  have hcl : s.vm.findClass cls = some ce.cls := by
    have h9 := hO.cls
    rw [hvm] at h9
    exact h9
  have hall : s.sameButNew ({ U with vm := s.vm } : State) locs mc ms := by
    subst hA
    obtain ⟨e1, e2⟩ := hsame
    rw [State.setFrames_setFrames] at e1
    have h2 : (T.setVm s.vm).sameButNew ({ U with vm := s.vm } : State) [] (0 + 1) (0 + 6) := ⟨e1, e2⟩
    have h3 := X.same.trans h2
    rw [List.append_nil] at h3
    exact h3.mono hc hs
  refine ⟨U, ?_, .threw T.heap.size, hrun, hend, Or.inr ⟨T.heap.size, rfl, cls, ce, locs, hx U hWs.alike f1 (fun q hq => f2 q hq (fun z hz => nomatch hz)), hce, hO.vm, hcl, hWs, hall, hf⟩⟩
  refine st1 _ ?_
  show Steps p.tables e below (T1.setTop { method := m, pc := pc + 3, locals := ls, stack := .ref T.heap.size :: rest, locked := none }) _
  jvm_step X₁.here [X₁.here.top, hexec, d3', Value.category]
  exact hsteps
/-- 'throw new E("text")': new; dup; ldc; invokespecial; athrow -/
theorem vx_throwS {cc : ByteArray} {pc : Nat} (hexec : p.tables.exec = Jvm.exec) (hb : c.code = cc) (hl : l.stackTraces = false) {own cls text : String} {names : List String} {ik is ic mc ms sa : Nat} {A : Nat → Prop}
    (hown : s.vm.findClass own = some m.cls) (hcls : Bundle.fit cls = true) (hnames : ∀ n ∈ names, Bundle.fit n = true)
    (hk : (Cond.classLink own ik cls).before args s = true) (hini : (Cond.initialized cls).before args s = true) (hstr : vk_R own is text sa s) (hat : ∀ w ∈ vx_atS own ic cls names, w.before args s = true)
    (hgood : ∀ w ∈ Cond.classLink own ik cls :: Cond.initialized cls :: vx_atS own ic cls names, vx_ot w = true)
    (hU : vx_Zq Bundle.tN "UNASSIGNED_STACK" Bundle.steD A s s.heap) (hN : vx_Zq Bundle.tN "SUPPRESSED_SENTINEL" Bundle.listD A s s.heap) (hS : va_S A s.heap H locs) (hsize : ls.size = c.maxLocals)
    (d0 : decode cc pc = .ok (.new ik, 3)) (d3 : decode cc (pc + 3) = .ok (.dup, 1)) (d4 : decode cc (pc + 4) = .ok (.ldc is, 2)) (d6 : decode cc (pc + 6) = .ok (.invokespecial ic, 3)) (d9 : decode cc (pc + 9) = .ok (.athrow, 1))
    (hout : ∀ x ∈ c.exceptionTable.toList, covers x (pc + 9) = false)
    (hRframes : names.length + 3 < R.frames) (hRlocals : (rest.map fun v => v.category).sum + (13 * (names.length + 1) + 43) ≤ R.locals) (hRcells : cells + 1 ≤ R.cells) (hRslots : slots + 6 ≤ R.slots) (hlocks : meth.locks = false)
    (hx : ∀ t : State, s.vm.Alike t.vm → H.size ≤ t.heap.size → (∀ q : Nat, q < H.size → t.heap[q]? = H[q]?) → XC cls s t)
    (hf : ∀ z ∈ locs, free z.base) (hc : cells + 1 ≤ mc) (hs : slots + 6 ≤ ms) :
    W p l e R s m args below meth c H locs cells slots (vx_MQ below Qc XC args s mc ms free) (F0 m pc ls rest) := by
  intro T hT X
  have htr : e.platform.stackTraces = false := (show e.platform.stackTraces = l.stackTraces by rw [X.admits.platform]).trans hl
  have Y := vx_rebase X (R' := { frames := R.frames, locals := R.locals, cells := 1, slots := 6 }) (Nat.le_refl _) (Nat.le_refl _) hRcells hRslots
  obtain ⟨s', hA⟩ : ∃ z, z = (T.setVm s.vm).setFrames (.invoking m args :: below) := ⟨_, rfl⟩
  rw [← hA] at Y
  have hvm : s'.vm = s.vm := by rw [hA]; rfl
  have hhp : s'.heap = H := by rw [hA]; exact hT
  have hW0 : s.WarmedH s'.vm := by rw [hvm]; exact State.WarmedH.refl s
  have hat' : ∀ w ∈ vx_atS own ic cls names, w.before args s' = true := fun w hw => vx_ot_at hW0 hvm.symm (hgood w (List.mem_cons_of_mem _ (List.mem_cons_of_mem _ hw))) (hat w hw)
  have hk' : (Cond.classLink own ik cls).before args s' = true := vx_ot_at hW0 hvm.symm (hgood _ List.mem_cons_self) hk
  have hini' : (Cond.initialized cls).before args s' = true := vx_ot_at hW0 hvm.symm (hgood _ (List.mem_cons_of_mem _ List.mem_cons_self)) hini
  have hU' : vx_Zq Bundle.tN "UNASSIGNED_STACK" Bundle.steD A s' s'.heap := by rw [hhp]; exact vx_Zq.moved hW0.alike (hU.kept hS.2.1)
  have hN' : vx_Zq Bundle.tN "SUPPRESSED_SENTINEL" Bundle.listD A s' s'.heap := by rw [hhp]; exact vx_Zq.moved hW0.alike (hN.kept hS.2.1)
  have h : ∀ w ∈ Bundle.ownAtoms own ic cls names, w.before args s' = true := vx_own hat' (vx_isRefq hU'.1) (vx_isRefq hN'.1) hU'.2.word hN'.2.word
  have hown' : s'.vm.findClass own = some m.cls := by rw [hvm]; exact hown
  have hins : (Cond.instantiable cls 6).before args s' = true := h _ (by simp [Bundle.ownAtoms])
  obtain ⟨vm₁, cX, kX, hfX, hkX, -, -, X₁, st1⟩ := Y.newCold hexec (own := own) (C := cls) (index := ik) (n := 6) hown' hk' hins hini'
    (g := F0 m pc ls rest) rfl (by rw [hb]; exact d0) (Nat.le_refl _) (Nat.le_refl _)
  generalize hT1 : (T.setVm vm₁).pushCell { cls := cX, slots := kX.instanceTypes.map defaultValue, vm := .none } = T1 at X₁ st1
  have hcat : (Value.ref T.heap.size).category = 1 := rfl
  have hcellA : T1.heap[T.heap.size]? = some (freshCell cX kX) := by rw [← hT1]; exact State.heap_pushCell_size _ _
  have d3' : decode c.code (pc + 3) = .ok (.dup, 1) := by rw [hb]; exact d3
  have d4' : decode c.code (pc + 4) = .ok (.ldc is, 2) := by rw [hb]; exact d4
  have hstr' : vk_R own is text sa s' := vk_R.warm hW0 hstr
  obtain ⟨U, hsteps, hrun, hend, hW, hsame, ce, hce, hO⟩ := X₁.ctorThrowS hexec htr (own := own) (cls := cls) (names := names) (ic := ic) hown' hcls hnames h (fun x hx => nomatch hx) hfX hkX hcellA (by rw [hhp, hT]; exact Nat.le_refl _) (msg := .ref sa) rfl
    (g := { method := m, pc := pc + 6, locals := ls, stack := .ref sa :: .ref T.heap.size :: .ref T.heap.size :: rest, locked := none }) rfl hsize rfl rfl (rest := rest) rfl
    (by rw [hb]; exact d6) (by rw [hb]; exact d9) hout hRframes (by simp only [List.map_cons, List.sum_cons, hcat]; omega) hlocks
  obtain ⟨f1, f2⟩ := vx_frame hsame
  rw [hhp] at f1 f2
  have hWs : s.WarmedH U.vm := State.WarmedH.trans hW0 hW
  have hcl : s.vm.findClass cls = some ce.cls := by
    have h9 := hO.cls
    rw [hvm] at h9
    exact h9
  have hall : s.sameButNew ({ U with vm := s.vm } : State) locs mc ms := by
    subst hA
    obtain ⟨e1, e2⟩ := hsame
    rw [State.setFrames_setFrames] at e1
    have h2 : (T.setVm s.vm).sameButNew ({ U with vm := s.vm } : State) [] (0 + 1) (0 + 6) := ⟨e1, e2⟩
    have h3 := X.same.trans h2
    rw [List.append_nil] at h3
    exact h3.mono hc hs
  refine ⟨U, ?_, .threw T.heap.size, hrun, hend, Or.inr ⟨T.heap.size, rfl, cls, ce, locs, hx U hWs.alike f1 (fun q hq => f2 q hq (fun z hz => nomatch hz)), hce, hO.vm, hcl, hWs, hall, hf⟩⟩
  refine st1 _ ?_
  show Steps p.tables e below (T1.setTop { method := m, pc := pc + 3, locals := ls, stack := .ref T.heap.size :: rest, locked := none }) _
  jvm_step X₁.here [X₁.here.top, hexec, d3', Value.category]
  exact X₁.ldcString hexec (own := own) (text := text) (index := is) (a := sa) hown' hstr'.1 hstr'.2
    (g := { method := m, pc := pc + 4, locals := ls, stack := .ref T.heap.size :: .ref T.heap.size :: rest, locked := none }) rfl d4' _ hsteps
/-- 'throw new E("text")', the text by a wide index -/
theorem vx_throwSW {cc : ByteArray} {pc : Nat} (hexec : p.tables.exec = Jvm.exec) (hb : c.code = cc) (hl : l.stackTraces = false) {own cls text : String} {names : List String} {ik is ic mc ms sa : Nat} {A : Nat → Prop}
    (hown : s.vm.findClass own = some m.cls) (hcls : Bundle.fit cls = true) (hnames : ∀ n ∈ names, Bundle.fit n = true)
    (hk : (Cond.classLink own ik cls).before args s = true) (hini : (Cond.initialized cls).before args s = true) (hstr : vk_R own is text sa s) (hat : ∀ w ∈ vx_atS own ic cls names, w.before args s = true)
    (hgood : ∀ w ∈ Cond.classLink own ik cls :: Cond.initialized cls :: vx_atS own ic cls names, vx_ot w = true)
    (hU : vx_Zq Bundle.tN "UNASSIGNED_STACK" Bundle.steD A s s.heap) (hN : vx_Zq Bundle.tN "SUPPRESSED_SENTINEL" Bundle.listD A s s.heap) (hS : va_S A s.heap H locs) (hsize : ls.size = c.maxLocals)
    (d0 : decode cc pc = .ok (.new ik, 3)) (d3 : decode cc (pc + 3) = .ok (.dup, 1)) (d4 : decode cc (pc + 4) = .ok (.ldc_w is, 3)) (d7 : decode cc (pc + 7) = .ok (.invokespecial ic, 3)) (d10 : decode cc (pc + 10) = .ok (.athrow, 1))
    (hout : ∀ x ∈ c.exceptionTable.toList, covers x (pc + 10) = false)
    (hRframes : names.length + 3 < R.frames) (hRlocals : (rest.map fun v => v.category).sum + (13 * (names.length + 1) + 43) ≤ R.locals) (hRcells : cells + 1 ≤ R.cells) (hRslots : slots + 6 ≤ R.slots) (hlocks : meth.locks = false)
    (hx : ∀ t : State, s.vm.Alike t.vm → H.size ≤ t.heap.size → (∀ q : Nat, q < H.size → t.heap[q]? = H[q]?) → XC cls s t)
    (hf : ∀ z ∈ locs, free z.base) (hc : cells + 1 ≤ mc) (hs : slots + 6 ≤ ms) :
    W p l e R s m args below meth c H locs cells slots (vx_MQ below Qc XC args s mc ms free) (F0 m pc ls rest) := by
  intro T hT X
  have htr : e.platform.stackTraces = false := (show e.platform.stackTraces = l.stackTraces by rw [X.admits.platform]).trans hl
  have Y := vx_rebase X (R' := { frames := R.frames, locals := R.locals, cells := 1, slots := 6 }) (Nat.le_refl _) (Nat.le_refl _) hRcells hRslots
  obtain ⟨s', hA⟩ : ∃ z, z = (T.setVm s.vm).setFrames (.invoking m args :: below) := ⟨_, rfl⟩
  rw [← hA] at Y
  have hvm : s'.vm = s.vm := by rw [hA]; rfl
  have hhp : s'.heap = H := by rw [hA]; exact hT
  have hW0 : s.WarmedH s'.vm := by rw [hvm]; exact State.WarmedH.refl s
  have hat' : ∀ w ∈ vx_atS own ic cls names, w.before args s' = true := fun w hw => vx_ot_at hW0 hvm.symm (hgood w (List.mem_cons_of_mem _ (List.mem_cons_of_mem _ hw))) (hat w hw)
  have hk' : (Cond.classLink own ik cls).before args s' = true := vx_ot_at hW0 hvm.symm (hgood _ List.mem_cons_self) hk
  have hini' : (Cond.initialized cls).before args s' = true := vx_ot_at hW0 hvm.symm (hgood _ (List.mem_cons_of_mem _ List.mem_cons_self)) hini
  have hU' : vx_Zq Bundle.tN "UNASSIGNED_STACK" Bundle.steD A s' s'.heap := by rw [hhp]; exact vx_Zq.moved hW0.alike (hU.kept hS.2.1)
  have hN' : vx_Zq Bundle.tN "SUPPRESSED_SENTINEL" Bundle.listD A s' s'.heap := by rw [hhp]; exact vx_Zq.moved hW0.alike (hN.kept hS.2.1)
  have h : ∀ w ∈ Bundle.ownAtoms own ic cls names, w.before args s' = true := vx_own hat' (vx_isRefq hU'.1) (vx_isRefq hN'.1) hU'.2.word hN'.2.word
  have hown' : s'.vm.findClass own = some m.cls := by rw [hvm]; exact hown
  have hins : (Cond.instantiable cls 6).before args s' = true := h _ (by simp [Bundle.ownAtoms])
  obtain ⟨vm₁, cX, kX, hfX, hkX, -, -, X₁, st1⟩ := Y.newCold hexec (own := own) (C := cls) (index := ik) (n := 6) hown' hk' hins hini'
    (g := F0 m pc ls rest) rfl (by rw [hb]; exact d0) (Nat.le_refl _) (Nat.le_refl _)
  generalize hT1 : (T.setVm vm₁).pushCell { cls := cX, slots := kX.instanceTypes.map defaultValue, vm := .none } = T1 at X₁ st1
  have hcat : (Value.ref T.heap.size).category = 1 := rfl
  have hcellA : T1.heap[T.heap.size]? = some (freshCell cX kX) := by rw [← hT1]; exact State.heap_pushCell_size _ _
  have d3' : decode c.code (pc + 3) = .ok (.dup, 1) := by rw [hb]; exact d3
  have d4' : decode c.code (pc + 4) = .ok (.ldc_w is, 3) := by rw [hb]; exact d4
  have hstr' : vk_R own is text sa s' := vk_R.warm hW0 hstr
  obtain ⟨U, hsteps, hrun, hend, hW, hsame, ce, hce, hO⟩ := X₁.ctorThrowS hexec htr (own := own) (cls := cls) (names := names) (ic := ic) hown' hcls hnames h (fun x hx => nomatch hx) hfX hkX hcellA (by rw [hhp, hT]; exact Nat.le_refl _) (msg := .ref sa) rfl
    (g := { method := m, pc := pc + 7, locals := ls, stack := .ref sa :: .ref T.heap.size :: .ref T.heap.size :: rest, locked := none }) rfl hsize rfl rfl (rest := rest) rfl
    (by rw [hb]; exact d7) (by rw [hb]; exact d10) hout hRframes (by simp only [List.map_cons, List.sum_cons, hcat]; omega) hlocks
  obtain ⟨f1, f2⟩ := vx_frame hsame
  rw [hhp] at f1 f2
  have hWs : s.WarmedH U.vm := State.WarmedH.trans hW0 hW
  have hcl : s.vm.findClass cls = some ce.cls := by
    have h9 := hO.cls
    rw [hvm] at h9
    exact h9
  have hall : s.sameButNew ({ U with vm := s.vm } : State) locs mc ms := by
    subst hA
    obtain ⟨e1, e2⟩ := hsame
    rw [State.setFrames_setFrames] at e1
    have h2 : (T.setVm s.vm).sameButNew ({ U with vm := s.vm } : State) [] (0 + 1) (0 + 6) := ⟨e1, e2⟩
    have h3 := X.same.trans h2
    rw [List.append_nil] at h3
    exact h3.mono hc hs
  refine ⟨U, ?_, .threw T.heap.size, hrun, hend, Or.inr ⟨T.heap.size, rfl, cls, ce, locs, hx U hWs.alike f1 (fun q hq => f2 q hq (fun z hz => nomatch hz)), hce, hO.vm, hcl, hWs, hall, hf⟩⟩
  refine st1 _ ?_
  show Steps p.tables e below (T1.setTop { method := m, pc := pc + 3, locals := ls, stack := .ref T.heap.size :: rest, locked := none }) _
  jvm_step X₁.here [X₁.here.top, hexec, d3', Value.category]
  exact X₁.ldcStringW hexec (own := own) (text := text) (index := is) (a := sa) hown' hstr'.1 hstr'.2
    (g := { method := m, pc := pc + 4, locals := ls, stack := .ref T.heap.size :: .ref T.heap.size :: rest, locked := none }) rfl d4' _ hsteps
end Ends
section Bodies
variable {l : Launch}
theorem vx_ofW {y : MethodName} {ws ws' : List Cond} {rm : Room} {Pc : Array Value → State → Prop} {Qc : Array Value → State → Outcome → State → Prop} {XC : String → State → State → Prop} {mc ms : Nat} {free : Addr → Prop} {cc : ByteArray} {maxL : Nat} {ret : Option FieldType}
    (hy : plainName y.cls = true) (hw : ws = Cond.code y cc maxL ret :: ws')
    (body : ∀ p e s m args below meth c s₁, BodyLoose p l y (headSpec ws rm) cc maxL ret e s m args below meth c s₁ → c.maxLocals = maxL → (∀ x ∈ c.exceptionTable.toList, False) → Pc args s →
      W p l e (headSpec ws rm).room s m args below meth c s.heap [] 0 0 (vx_MQ below Qc XC args s mc ms free) (entryFrame m args maxL)) : vx_Met l y ws rm Pc Qc XC mc ms free := by
  refine MetFree.of_bodyS (code := cc) (maxLocals := maxL) (ret := ret) hy ?_ ?_
  · intro args s m h hn
    obtain ⟨meth, c, h1, h2, h3, h4, h5, h6, -, -⟩ := Cond.code_spec hn (atoms_spec (ws := ws) h _ (by rw [hw]; exact List.mem_cons_self))
    exact ⟨meth, c, h1, h2, h3, h4, h5, h6⟩
  · intro p e s m args below meth c s₁ B hml hP _
    have hh0 : s₁.heap = s.heap := by rw [B.state]; rfl
    have ht : ∀ x ∈ c.exceptionTable.toList, False := by
      obtain ⟨meth9, c9, h1, h2, -, -, -, -, h7, -⟩ := Cond.code_spec B.named (atoms_spec (ws := ws) B.pre _ (by rw [hw]; exact List.mem_cons_self))
      cases Option.some.inj (h1.symm.trans B.method)
      cases Option.some.inj (h2.symm.trans (Stand.of_body B).code)
      intro x hx
      rw [Array.isEmpty_iff.mp h7] at hx
      cases hx
    obtain ⟨t, a1, o, b1, b2, b3⟩ := body p e s m args below meth c s₁ B hml ht hP s₁ hh0 (Stand.of_body B)
    exact ⟨t, o, a1, b1, b2, b3⟩
/-- the table of a body with handlers -/
theorem vx_table {p : Program} {x y : MethodName} {S : Spec} {cc bytes : ByteArray} {maxL maxL' : Nat} {ret ret' : Option FieldType} {e : Env} {s s₁ : State} {m : MethodId} {args : Array Value} {below : List Frame} {meth : Method} {c : Code} {hh : List (Nat × Nat × Nat × Nat)}
    (B : BodyLoose p l y S cc maxL ret e s m args below meth c s₁) (h : (Cond.codeWith y bytes maxL' ret' hh).before args s = true) : c.exceptionTable.toList = tableOf hh := by
  obtain ⟨m9, meth9, c9, hn9, h1, h2, -, -, h6, -⟩ := Cond.codeWith_spec h
  cases Option.some.inj (hn9.symm.trans B.named)
  cases Option.some.inj (h1.symm.trans B.method)
  cases Option.some.inj (h2.symm.trans (Stand.of_body B).code)
  rw [← h6, table_eq]
end Bodies
end VXA
/-! ===== END ===== -/
/-! ===== BEGIN a static call of a method with an exception table ===== -/
section VXS
variable {p : Program} {l : Launch} {e : Env} {R : Room} {s : State} {m : MethodId} {args : Array Value} {below : List Frame} {meth : Method} {c : Code} {T : State} {H : Heap} {locs : List Loc} {cells slots : Nat}
abbrev vx_CSW (R : Room) (s : State) (args : Array Value) (own : String) (index : Nat) (y : MethodName) (bytes : ByteArray) (maxL : Nat) (ret : Option FieldType) (hh : List (Nat × Nat × Nat × Nat)) (ws : List Cond) (rm : Room) (mc ms n : Nat) : Prop :=
  (rm.cells = mc ∧ rm.slots = ms ∧ rm.frames + 1 ≤ R.frames ∧ 8 + (maxL + 11) + rm.locals ≤ R.locals ∧ (∀ w ∈ ws, ∀ (a' : Array Value) (U : State), s.WarmedH U.vm → w.before a' U = true) ∧ Cond.codeWith y bytes maxL ret hh ∈ ws) ∧
  (Cond.codeWith y bytes maxL ret hh).before args s = true ∧ (Cond.initialized y.cls).before args s = true ∧ (y.cls ≠ "java/lang/invoke/MethodHandle" ∧ y.cls ≠ "java/lang/invoke/VarHandle") ∧
  (∀ sig, parseMethodDescriptor y.desc = some sig → n = sig.parameters.length) ∧ (Cond.methodLink own index y).before args s = true ∧ (Cond.static y).before args s = true
theorem vx_cwSW {own : String} {index maxL mc ms : Nat} {y : MethodName} {bytes : ByteArray} {ret : Option FieldType} {hh : List (Nat × Nat × Nat × Nat)} {Ts ws ws' : List Cond} {rm : Room} (n : Nat) (ht : ∀ w ∈ Ts, w.before args s = true) (hT : GoodIn Ts (va_wsS own index y ws)) (hw : ws = Cond.codeWith y bytes maxL ret hh :: ws') (hrc : rm.cells = mc) (hrs : rm.slots = ms)
    (hd : y.cls ≠ "java/lang/invoke/MethodHandle" ∧ y.cls ≠ "java/lang/invoke/VarHandle" ∧ (parseMethodDescriptor y.desc).map (fun d => d.parameters.length) = some n) (hR : rm.frames + 1 ≤ R.frames ∧ 8 + (maxL + 11) + rm.locals ≤ R.locals) :
    vx_CSW R s args own index y bytes maxL ret hh ws rm mc ms n := by
  have ok : ∀ w ∈ va_wsS own index y ws, w.before args s = true := fun w h => ht w (hT w h).1
  have hG : GoodIn Ts ws := fun w h => hT w (by unfold va_wsS; exact List.mem_append_right _ h)
  have hc : Cond.codeWith y bytes maxL ret hh ∈ ws := by rw [hw]; exact List.mem_cons_self
  refine ⟨⟨hrc, hrs, hR.1, hR.2, pay_in ht hG, hc⟩, ht _ (hG _ hc).1, ok _ (by simp [va_wsS]), ⟨hd.1, hd.2.1⟩, fun sig h => ?_, ok _ (by simp [va_wsS]), ok _ (by simp [va_wsS])⟩
  have h2 := hd.2.2
  rw [h] at h2
  exact (Option.some.inj h2).symm
theorem vx_callSW (X : Stand p l e R s m args below meth c T locs cells slots) (hexec : p.tables.exec = Jvm.exec) {own : String} {index : Nat} {y : MethodName} {bytes : ByteArray} {maxL : Nat} {ret : Option FieldType} {hh : List (Nat × Nat × Nat × Nat)}
    (hown : s.vm.findClass own = some m.cls) (hlink : (Cond.methodLink own index y).before args s = true) (hstat : (Cond.static y).before args s = true) (hinit : (Cond.initialized y.cls).before args s = true)
    (hcode : (Cond.codeWith y bytes maxL ret hh).before args s = true) (hy : y.cls ≠ "java/lang/invoke/MethodHandle" ∧ y.cls ≠ "java/lang/invoke/VarHandle")
    {W9 : Nat} {Pre : Pt → Array Value → Prop} {Post : Pt → Array Value → Option Value → Pt → Prop} (hK : Back l R p e below s args y 3 W9 Pre Post)
    {g : JFrame} (hg : g.method = m) (hsize : g.locals.size = c.maxLocals) {argsL rest : List Value} (hlen : ∀ sig, parseMethodDescriptor y.desc = some sig → argsL.length = sig.parameters.length)
    (hstack : g.stack = argsL.reverse ++ rest) (hW : 2 * g.monitorRoom + (rest.map fun v => v.category).sum ≤ W9) (hdg : decode c.code g.pc = .ok (.invokestatic index, 3))
    (hpre : ∀ vm₁, s.WarmedH vm₁ → Pre ⟨T.setVm vm₁, locs, cells, slots⟩ argsL.toArray) :
    ∃ (v : Option Value) (vm₁ : Vm) (B : Pt), s.WarmedH vm₁ ∧ Stand p l e R s m args below meth c B.U B.locs B.cells B.slots ∧ Post ⟨T.setVm vm₁, locs, cells, slots⟩ argsL.toArray v B ∧
      ∀ target, Steps p.tables e below (B.U.setTop { g with pc := g.pc + 3, stack := v.toList ++ rest }) target → Steps p.tables e below (T.setTop g) target := by
  obtain ⟨mk, methM, cM, hnamed, hmethM, -, -, -, -, -, -, hsigM⟩ := Cond.codeWith_spec hcode
  have hstatic : methM.isStatic = true := Cond.static_spec hnamed hmethM hstat
  obtain ⟨kP, hkP, -⟩ := className_of_methodNamed hnamed
  have hinitP : kP.init = .initialized := Cond.initialized_spec (findClass_of_methodNamed hnamed) hkP hinit
  obtain ⟨vm₁, X₁, hstep₁⟩ := X.invokestatic hexec hown hlink hnamed hmethM hstatic hkP hinitP hy (g := g) hg (argsL := argsL) (rest := rest) (hlen _ hsigM) hstack hdg
  obtain ⟨v, B, X', hpost, hsteps⟩ := hK m meth c ⟨T.setVm vm₁, locs, cells, slots⟩ { g with stack := rest } (.invokestatic index) mk argsL.toArray X₁ hg hsize hdg hW (X₁.named hnamed) (hpre vm₁ X₁.warmed)
  exact ⟨v, vm₁, B, X₁.warmed, X', hpost, fun target h => hstep₁ _ fun acts => by rw [doInvoke_state]; exact hsteps.trans h⟩
theorem vx_runSW {y : MethodName} {bytes cc : ByteArray} {maxL nL mc ms n index : Nat} {ret : Option FieldType} {hh : List (Nat × Nat × Nat × Nat)} {ws : List Cond} {rm : Room} {Pc : Array Value → State → Prop} {Qc : Array Value → State → Outcome → State → Prop} {free : Addr → Prop} {Ts : List Cond} {own : String} {As rest : List Value} {g : JFrame}
    (S : CallFix p m c cc nL s args Ts own) (hM : Met l y ws rm Pc Qc mc ms free) (cw : vx_CSW R s args own index y bytes maxL ret hh ws rm mc ms n) (hp : PreS s H Pc As)
    (hg : g.method = m) (hn : As.length = n) (hsize : g.locals.size = nL) (hstack : g.stack = As.reverse ++ rest) (hW : 2 * g.monitorRoom + (rest.map fun v => v.category).sum ≤ 8) (hdg : decode cc g.pc = .ok (.invokestatic index, 3)) (hf : cells + mc ≤ R.cells ∧ slots + ms ≤ R.slots) :
    va_Run p l e R s m args below meth c H locs cells slots mc ms g rest (Qc As.toArray) (free) := by
  obtain ⟨⟨hrc, hrs, hfr, hlo, hws, hcw⟩, hcode, hini, hy, hlen, hl, hstt⟩ := cw
  have hK : Back l R p e below s args y 3 8 (PreOf R mc ms Pc) (PostOf Qc mc ms free) := va_backW (hh := hh) (bytes := bytes) (maxL := maxL) (ret := ret) hM hp.1 hrc hrs hfr hlo hws hcw (fun a' U hW => word_at hW (Or.inl (by first | rfl | simp [Cond.onTables, Cond.keeps, Cond.steady])) hini)
  obtain ⟨hx, hb, hml, ho, -⟩ := S
  intro T hT X
  obtain ⟨v, vm₁, ⟨U', l2, c2, s2⟩, hW₁, X', ⟨g', mk, t, L, e1, e2, hq, h1, hL, h2, h3⟩, st⟩ := vx_callSW X hx (hh := hh) (bytes := bytes) (maxL := maxL) (ret := ret) ho hl hstt hini hcode hy hK hg (hsize.trans hml.symm) (argsL := As) (rest := rest) (fun sig h => hn.trans (hlen sig h)) hstack hW (by rw [hb]; exact hdg)
    (fun vm₁ hW₁ => ⟨hf.1, hf.2, hp.2 (T.setVm vm₁) hT hW₁⟩)
  dsimp only [Pt.U, Pt.locs, Pt.cells, Pt.slots] at X' e1 e2 h1 h2 h3 st
  subst h1; subst h2; subst h3
  exact ⟨v, (T.setVm vm₁).calling g' mk As.toArray, t, U', L, hT, X', hL, e1, e2, hq, st⟩
/-- not caught here, past rows that name other classes: it goes on to the caller -/
theorem vx_outP {p : Program} {l : Launch} {e : Env} {R : Room} {s : State} {m : MethodId} {args : Array Value} {below : List Frame} {meth : Method} {c : Code} {H : Heap} {locs : List Loc} {cells slots : Nat} {free : Addr → Prop} {ls : Array Slot} {rest : List Value} {Qc : Array Value → State → Outcome → State → Prop} {XC : String → State → State → Prop}
    {pc : Nat} {own E : String} {ce : Cell} {q : Addr} {mc ms : Nat} (hown : s.vm.findClass own = some m.cls) (hlocks : meth.locks = false)
    (hpass : ∀ z ∈ c.exceptionTable.toList, covers z pc = false ∨ (z.catchType ≠ 0 ∧ ∃ nm : String, (Cond.classLink own z.catchType nm).before args s = true ∧ va_Nc E nm s)) (hcell : H[q]? = some ce) (hv : ce.vm = .none) (hcl : s.vm.findClass E = some ce.cls)
    (hx : ∀ t : State, t.heap = H → s.vm.Alike t.vm → XC E s t) (hf : ∀ z ∈ locs, free z.base) (hc : cells ≤ mc) (hs : slots ≤ ms) :
    vx_W p l e R s m args below meth c H locs cells slots (vx_MQ below Qc XC args s mc ms free) (F0 m pc ls rest) q := by
  intro T hT X
  have hpl : e.platform.magicAccessors = ({} : Platform).magicAccessors := by rw [X.admits.platform]
  obtain ⟨vm', hW', X', st⟩ := X.outThrough hlocks q (g := F0 m pc ls rest) rfl rfl rfl (cell := ce) (by rw [hT]; exact hcell) (by rw [hv]; rfl)
    (by obtain ⟨k9, h9, -⟩ := Vm.findClass_spec hcl; exact ⟨k9, h9⟩) (fun z hz => by
      rcases hpass z hz with h | ⟨hz0, nm, hl1, hn1⟩
      · exact Or.inl h
      · obtain ⟨c6, hc6, hcl6⟩ := Cond.classLink_spec hown hl1 e.platform hpl
        obtain ⟨a8, b8, h1, h2, h3⟩ := hn1
        cases Option.some.inj (h1.symm.trans hcl)
        cases Option.some.inj (h2.symm.trans hc6)
        exact Or.inr ⟨hz0, _, hcl6, h3⟩)
  obtain ⟨g₀, hfr⟩ := X'.frames_eq
  have hcell9 : ((T.setVm vm').setFrames (.throwing q :: below)).heap[q]? = some ce := by
    show T.heap[q]? = some ce
    rw [hT]; exact hcell
  have hend : Ended ((T.setVm vm').setFrames (.throwing q :: below)) below (.threw q) := State.frames_setFrames _ (State.cur_lt_of_frames hfr)
  refine ⟨(T.setVm vm').setFrames (.throwing q :: below), ?_, .threw q, X'.here.running, hend, Or.inr ⟨q, rfl, E, ce, locs, hx _ hT (X'.ends _).1.alike, hcell9, hv, hcl, (X'.ends _).1, (X'.ends _).2.mono hc hs, hf⟩⟩
  rw [X.pushThrowing_eq]
  exact st
/-- a thing of a world lies in the heap -/
theorem vx_lt {D : va_G} {cl : List vw_C} {ws : va_W} {H1 : Heap} (h : va_P D cl ws H1) {k : Nat} {q : Nat × va_E} (hk : ws[k]? = some q) : q.1 < H1.size := (h k q hk).lt
end VXS
/-! ===== END ===== -/
/-! ===== BEGIN methods with a table of their own: called by a name, returning or throwing ===== -/
section VXH
/-! vx_backW, vx_callVX, vx_callSX, vx_callVW, vx_runVW, vx_runVX, vx_runSX, vx_ofWH follow the same proofs as their sisters above (Free/Laws.lean, Shelf42/LK1.lean); vx_outP calls Shelf42/NT130.lean (outThrough). -/
section
variable {l : Launch} {R : Room} {p : Program} {e : Env} {below : List Frame} {s : State} {sargs : Array Value} {y : MethodName} {len W9 : Nat}
theorem vx_backW {ws : List Cond} {rm : Room} {Pc : Array Value → State → Prop} {Qc : Array Value → State → Outcome → State → Prop} {XC : String → State → State → Prop} {mc ms : Nat} {free : Addr → Prop} {bytes : ByteArray} {maxL : Nat} {ret : Option FieldType} {hh : List (Nat × Nat × Nat × Nat)}
    (hM : vx_Met l y ws rm Pc Qc XC mc ms free) (hblind : FrameBlind Pc) (hrc : rm.cells = mc) (hrs : rm.slots = ms)
    (hframes : rm.frames + 1 ≤ R.frames) (hlocals : W9 + (maxL + 11) + rm.locals ≤ R.locals)
    (hws : ∀ w ∈ ws, ∀ a' U, s.WarmedH U.vm → w.before a' U = true) (hcode : Cond.codeWith y bytes maxL ret hh ∈ ws) (hinit : ∀ a' U, s.WarmedH U.vm → (Cond.initialized y.cls).before a' U = true) :
    vx_Back l R p e below s sargs y len W9 (PreOf R mc ms Pc) (PostOf Qc mc ms free) (vx_Post XC mc ms free) := by
  intro m meth c A g ig mk a X hg hsize hdg hW hn hp
  have h1 : (headSpec ws rm).pre.before a A.U = true := atoms_intro fun w hw => hws w hw _ _ X.warmed
  have h2 : (Cond.codeWith y bytes maxL ret hh).before a A.U = true := hws _ hcode _ _ X.warmed
  have h3 : (Cond.initialized y.cls).before a A.U = true := hinit _ _ X.warmed
  have h4 : A.cells + (headSpec ws rm).room.cells ≤ R.cells := by rw [show (headSpec ws rm).room.cells = mc from hrc]; exact hp.1
  have h5 : A.slots + (headSpec ws rm).room.slots ≤ R.slots := by rw [show (headSpec ws rm).room.slots = ms from hrs]; exact hp.2.1
  have hPc : Pc a (A.U.calling g mk a) := hblind _ _ _ _ hp.2.2
  obtain ⟨U, Ls, c0, s0⟩ := A
  dsimp only [Pt.U, Pt.locs, Pt.cells, Pt.slots] at h1 h2 h3 h4 h5 X hn hPc ⊢
  obtain ⟨m9, methY, cY, hn9, hmY, hcY, -, hlY, -⟩ := Cond.codeWith_spec h2
  cases Option.some.inj (hn9.symm.trans hn)
  obtain ⟨kY, hkY, -⟩ := className_of_methodNamed hn
  have hinitY : kY.init = .initialized := Cond.initialized_spec (findClass_of_methodNamed hn) hkY h3
  have h : At U g.method c below := by rw [hg]; exact X.here
  have hlocals9 : W9 + (maxL + 11) + (headSpec ws rm).room.locals ≤ R.locals := hlocals
  have happ : (headSpec ws rm).appliesLoose y e.platform (U.calling g mk a) = true :=
    Spec.appliesLoose_calling (g := g) h hdg hn hkY hinitY
      (X.room_calling (g := g) (R' := (headSpec ws rm).room) hsize hmY hcY hframes (by rw [hlY]; omega) h4 h5) h1
  obtain ⟨mid, hmid⟩ := h.above
  have hfr : (U.setTop g).frames = (.java g :: mid) ++ below := by rw [State.frames_setTop' g h.top, hmid]; rfl
  obtain ⟨o, s₂, hsteps, -, hend, hq⟩ := Steps.callFree hM p X.admits X.cas X.clock (acts := []) hfr happ hPc trivial
  have hq' : vx_Q Qc XC mc ms free a (U.calling g mk a) o s₂ := hq
  rw [State.frames_setTop' g h.top] at hend
  obtain ⟨g₀, hg0⟩ := Option.isSome_iff_exists.mp h.top
  obtain ⟨r, hr⟩ := State.topJava?_eq_some.mp hg0
  have hr' : (({ U with heap := s₂.heap, slotsUsed := s₂.slotsUsed } : State).setVm s₂.vm).frames = .java g₀ :: r := hr
  rcases hq' with ⟨hqc, L, hfe, hL⟩ | ⟨q, rfl, E, ce, L, hx, hce, hcv, hcl, hW₂, hsm, hL⟩
  · obtain ⟨⟨v, rfl⟩, hW₂, e2, q2, q3, q4, q5, q6⟩ := id hfe
    have e3 : s₂ = ({ (U.calling g mk a).setFrames s₂.frames with heap := s₂.heap, slotsUsed := s₂.slotsUsed } : State).setVm s₂.vm := by
      have : s₂ = ({ s₂ with vm := (U.calling g mk a).vm } : State).setVm s₂.vm := rfl
      rw [e2] at this
      exact this
    obtain ⟨c₂, i₂, len₂, hc₂, hd₂, hf₂⟩ := hend
    have hW' : U.WarmedH s₂.vm := hW₂
    have hcc : c₂ = c := by
      have h1 : s₂.code? g.method = U.code? g.method := by
        rw [State.code?_eq, State.code?_eq, hW'.alike.method?]
      exact Option.some.inj (hc₂.symm.trans (h1.trans h.code))
    subst hcc
    have hlen : len₂ = len := by rw [hdg] at hd₂; cases hd₂; rfl
    subst hlen
    have hs₂ : s₂ = (({ U with heap := s₂.heap, slotsUsed := s₂.slotsUsed } : State).setVm s₂.vm).setTop { g with pc := g.pc + len₂, stack := v.toList ++ g.stack } := by
      refine e3.trans ?_
      rw [hf₂, State.calling_eq h.top, State.setFrames_setFrames, State.setTop_of_frames _ hr', hr]
      rfl
    have hsame : U.sameButNew ({ U with heap := s₂.heap, slotsUsed := s₂.slotsUsed } : State) L mc ms := by
      refine ⟨?_, q2, q3, q4, q5, q6⟩
      obtain ⟨t, ht, -⟩ := State.frames_cons hr
      show ({ U with heap := s₂.heap, slotsUsed := s₂.slotsUsed } : State) = { U.setFrames U.frames with heap := s₂.heap, slotsUsed := s₂.slotsUsed }
      rw [State.setFrames_self ht]
    subst hg
    refine Or.inl ⟨v, ⟨(({ U with heap := s₂.heap, slotsUsed := s₂.slotsUsed } : State).setVm s₂.vm), Ls ++ L, c0 + mc, s0 + ms⟩,
      ⟨X.admits, X.cas, X.clock, X.frames, X.room, X.hears, X.method, X.code, (X.here.setHeapUsed s₂.heap s₂.slotsUsed).setVm hW'.alike, X.tail, State.WarmedH.trans X.warmed hW', X.limits, X.bytes, X.same.trans (hsame.setVm s.vm)⟩,
      ⟨g, mk, s₂, L, rfl, rfl, hqc, rfl, hL, rfl, rfl⟩, ?_⟩
    show Steps p.tables e below _ ((({ U with heap := s₂.heap, slotsUsed := s₂.slotsUsed } : State).setVm s₂.vm).setTop { g with pc := g.pc + len₂, stack := v.toList ++ g.stack })
    rw [← hs₂]
    exact hsteps
  · obtain ⟨e2, q2, q3, q4, q5, q6⟩ := id hsm
    have e3 : s₂ = ({ (U.calling g mk a).setFrames s₂.frames with heap := s₂.heap, slotsUsed := s₂.slotsUsed } : State).setVm s₂.vm := by
      have : s₂ = ({ s₂ with vm := (U.calling g mk a).vm } : State).setVm s₂.vm := rfl
      rw [e2] at this
      exact this
    have hf₂ : s₂.frames = .throwing q :: .java g :: U.frames.tail := hend
    have hW' : U.WarmedH s₂.vm := hW₂
    have hs₂ : s₂ = ((({ U with heap := s₂.heap, slotsUsed := s₂.slotsUsed } : State).setVm s₂.vm).setTop g).pushFrame (.throwing q) := by
      refine e3.trans ?_
      rw [hf₂, State.calling_eq h.top, State.setFrames_setFrames, State.pushFrame, State.frames_setTop _ hr', State.setTop_of_frames _ hr', State.setFrames_setFrames, hr]
      rfl
    have hsame : U.sameButNew ({ U with heap := s₂.heap, slotsUsed := s₂.slotsUsed } : State) L mc ms := by
      refine ⟨?_, q2, q3, q4, q5, q6⟩
      obtain ⟨t, ht, -⟩ := State.frames_cons hr
      show ({ U with heap := s₂.heap, slotsUsed := s₂.slotsUsed } : State) = { U.setFrames U.frames with heap := s₂.heap, slotsUsed := s₂.slotsUsed }
      rw [State.setFrames_self ht]
    subst hg
    refine Or.inr ⟨q, ⟨(({ U with heap := s₂.heap, slotsUsed := s₂.slotsUsed } : State).setVm s₂.vm), Ls ++ L, c0 + mc, s0 + ms⟩,
      ⟨X.admits, X.cas, X.clock, X.frames, X.room, X.hears, X.method, X.code, (X.here.setHeapUsed s₂.heap s₂.slotsUsed).setVm hW'.alike, X.tail, State.WarmedH.trans X.warmed hW', X.limits, X.bytes, X.same.trans (hsame.setVm s.vm)⟩,
      ⟨g, mk, s₂, L, E, ce, rfl, rfl, hx, hce, hcv, hcl, rfl, hL, rfl, rfl⟩, ?_⟩
    show Steps p.tables e below _ (((({ U with heap := s₂.heap, slotsUsed := s₂.slotsUsed } : State).setVm s₂.vm).setTop g).pushFrame (.throwing q))
    rw [← hs₂]
    exact hsteps
end
variable {p : Program} {l : Launch} {e : Env} {R : Room} {s : State} {m : MethodId} {args : Array Value} {below : List Frame} {meth : Method} {c : Code} {T : State} {H : Heap} {locs : List Loc} {cells slots : Nat}
theorem vx_callVX (X : Stand p l e R s m args below meth c T locs cells slots) (hexec : p.tables.exec = Jvm.exec) {own C : String} {index : Nat} {y : MethodName} {bytes : ByteArray} {maxL : Nat} {ret : Option FieldType} {hh : List (Nat × Nat × Nat × Nat)}
    (hown : s.vm.findClass own = some m.cls) (hlink : (Cond.methodLink own index y).before args s = true) (hinst : (Cond.instanceMethod y).before args s = true) (hsel : (Cond.selects C y y).before args s = true)
    (hcode : (Cond.codeWith y bytes maxL ret hh).before args s = true) (hy : y.cls ≠ "java/lang/invoke/MethodHandle" ∧ y.cls ≠ "java/lang/invoke/VarHandle")
    {W9 : Nat} {Pre : Pt → Array Value → Prop} {Post : Pt → Array Value → Option Value → Pt → Prop} {PostX : Pt → Array Value → Addr → Pt → Prop} (hK : vx_Back l R p e below s args y 3 W9 Pre Post PostX)
    {b : Addr} {cellB : Cell} (hcell : T.heap[b]? = some cellB) (hobj : cellB.vm.isStatics = false) (hcls : s.vm.findClass C = some cellB.cls)
    {g : JFrame} (hg : g.method = m) (hsize : g.locals.size = c.maxLocals) {argsL rest : List Value} (hlen : ∀ sig, parseMethodDescriptor y.desc = some sig → argsL.length = sig.parameters.length)
    (hstack : g.stack = argsL.reverse ++ .ref b :: rest) (hW : 2 * g.monitorRoom + (rest.map fun v => v.category).sum ≤ W9) (hdg : decode c.code g.pc = .ok (.invokevirtual index, 3))
    (hpre : ∀ vm₁, s.WarmedH vm₁ → Pre ⟨T.setVm vm₁, locs, cells, slots⟩ (Value.ref b :: argsL).toArray) :
    (∃ (v : Option Value) (vm₁ : Vm) (B : Pt), s.WarmedH vm₁ ∧ Stand p l e R s m args below meth c B.U B.locs B.cells B.slots ∧ Post ⟨T.setVm vm₁, locs, cells, slots⟩ (Value.ref b :: argsL).toArray v B ∧
      ∀ target, Steps p.tables e below (B.U.setTop { g with pc := g.pc + 3, stack := v.toList ++ rest }) target → Steps p.tables e below (T.setTop g) target) ∨
    (∃ (q : Addr) (vm₁ : Vm) (B : Pt), s.WarmedH vm₁ ∧ Stand p l e R s m args below meth c B.U B.locs B.cells B.slots ∧ PostX ⟨T.setVm vm₁, locs, cells, slots⟩ (Value.ref b :: argsL).toArray q B ∧
      Steps p.tables e below (T.setTop g) ((B.U.setTop { g with stack := rest }).pushFrame (.throwing q))) := by
  obtain ⟨mk, methM, hnamed, hmethM, hstM, habM⟩ := Cond.instanceMethod_spec hinst
  obtain ⟨m8, methM', cM, hn8, hmethM', -, -, -, -, -, -, hsigM⟩ := Cond.codeWith_spec hcode
  cases Option.some.inj (hn8.symm.trans hnamed)
  cases hmethM.symm.trans hmethM'
  obtain ⟨c2, r2, m2, q1, q2, q3, q4, kP, hkP, hkPi⟩ := Cond.selects_spec hsel
  cases hcls.symm.trans q1
  cases (State.methodFound?_of_named hnamed hy).symm.trans q2
  cases hnamed.symm.trans q3
  have hselP : selectMethod e.platform s.vm cellB.cls mk = .method mk := by rw [Launch.admits_selectMethod X.admits]; exact q4
  obtain ⟨vm₁, X₁, hstep₁⟩ := X.invokevirtual hexec hown hlink hnamed hmethM hstM hkP hkPi hy (a := b) (cell := cellB) hcell
    (fun z h => by rw [h] at hobj; cases hobj) hselP hmethM habM hkP hkPi (g := g) hg (argsL := argsL) (rest := rest) (hlen _ hsigM) hstack hdg
  rcases hK m meth c ⟨T.setVm vm₁, locs, cells, slots⟩ { g with stack := rest } (.invokevirtual index) mk (Value.ref b :: argsL).toArray X₁ hg hsize hdg hW (X₁.named hnamed) (hpre vm₁ X₁.warmed) with ⟨v, B, X', hpost, hsteps⟩ | ⟨q, B, X', hpost, hsteps⟩
  · exact Or.inl ⟨v, vm₁, B, X₁.warmed, X', hpost, fun target h => hstep₁ _ fun acts => by rw [doInvoke_state]; exact hsteps.trans h⟩
  · exact Or.inr ⟨q, vm₁, B, X₁.warmed, X', hpost, hstep₁ _ fun acts => by rw [doInvoke_state]; exact hsteps⟩
theorem vx_callSX (X : Stand p l e R s m args below meth c T locs cells slots) (hexec : p.tables.exec = Jvm.exec) {own : String} {index : Nat} {y : MethodName} {bytes : ByteArray} {maxL : Nat} {ret : Option FieldType} {hh : List (Nat × Nat × Nat × Nat)}
    (hown : s.vm.findClass own = some m.cls) (hlink : (Cond.methodLink own index y).before args s = true) (hstat : (Cond.static y).before args s = true) (hinit : (Cond.initialized y.cls).before args s = true)
    (hcode : (Cond.codeWith y bytes maxL ret hh).before args s = true) (hy : y.cls ≠ "java/lang/invoke/MethodHandle" ∧ y.cls ≠ "java/lang/invoke/VarHandle")
    {W9 : Nat} {Pre : Pt → Array Value → Prop} {Post : Pt → Array Value → Option Value → Pt → Prop} {PostX : Pt → Array Value → Addr → Pt → Prop} (hK : vx_Back l R p e below s args y 3 W9 Pre Post PostX)
    {g : JFrame} (hg : g.method = m) (hsize : g.locals.size = c.maxLocals) {argsL rest : List Value} (hlen : ∀ sig, parseMethodDescriptor y.desc = some sig → argsL.length = sig.parameters.length)
    (hstack : g.stack = argsL.reverse ++ rest) (hW : 2 * g.monitorRoom + (rest.map fun v => v.category).sum ≤ W9) (hdg : decode c.code g.pc = .ok (.invokestatic index, 3))
    (hpre : ∀ vm₁, s.WarmedH vm₁ → Pre ⟨T.setVm vm₁, locs, cells, slots⟩ argsL.toArray) :
    (∃ (v : Option Value) (vm₁ : Vm) (B : Pt), s.WarmedH vm₁ ∧ Stand p l e R s m args below meth c B.U B.locs B.cells B.slots ∧ Post ⟨T.setVm vm₁, locs, cells, slots⟩ argsL.toArray v B ∧
      ∀ target, Steps p.tables e below (B.U.setTop { g with pc := g.pc + 3, stack := v.toList ++ rest }) target → Steps p.tables e below (T.setTop g) target) ∨
    (∃ (q : Addr) (vm₁ : Vm) (B : Pt), s.WarmedH vm₁ ∧ Stand p l e R s m args below meth c B.U B.locs B.cells B.slots ∧ PostX ⟨T.setVm vm₁, locs, cells, slots⟩ argsL.toArray q B ∧
      Steps p.tables e below (T.setTop g) ((B.U.setTop { g with stack := rest }).pushFrame (.throwing q))) := by
  obtain ⟨mk, methM, cM, hnamed, hmethM, -, -, -, -, -, -, hsigM⟩ := Cond.codeWith_spec hcode
  have hstatic : methM.isStatic = true := Cond.static_spec hnamed hmethM hstat
  obtain ⟨kP, hkP, -⟩ := className_of_methodNamed hnamed
  have hinitP : kP.init = .initialized := Cond.initialized_spec (findClass_of_methodNamed hnamed) hkP hinit
  obtain ⟨vm₁, X₁, hstep₁⟩ := X.invokestatic hexec hown hlink hnamed hmethM hstatic hkP hinitP hy (g := g) hg (argsL := argsL) (rest := rest) (hlen _ hsigM) hstack hdg
  rcases hK m meth c ⟨T.setVm vm₁, locs, cells, slots⟩ { g with stack := rest } (.invokestatic index) mk argsL.toArray X₁ hg hsize hdg hW (X₁.named hnamed) (hpre vm₁ X₁.warmed) with ⟨v, B, X', hpost, hsteps⟩ | ⟨q, B, X', hpost, hsteps⟩
  · exact Or.inl ⟨v, vm₁, B, X₁.warmed, X', hpost, fun target h => hstep₁ _ fun acts => by rw [doInvoke_state]; exact hsteps.trans h⟩
  · exact Or.inr ⟨q, vm₁, B, X₁.warmed, X', hpost, hstep₁ _ fun acts => by rw [doInvoke_state]; exact hsteps⟩
theorem vx_callVW (X : Stand p l e R s m args below meth c T locs cells slots) (hexec : p.tables.exec = Jvm.exec) {own C : String} {index : Nat} {y : MethodName} {bytes : ByteArray} {maxL : Nat} {ret : Option FieldType} {hh : List (Nat × Nat × Nat × Nat)}
    (hown : s.vm.findClass own = some m.cls) (hlink : (Cond.methodLink own index y).before args s = true) (hinst : (Cond.instanceMethod y).before args s = true) (hsel : (Cond.selects C y y).before args s = true)
    (hcode : (Cond.codeWith y bytes maxL ret hh).before args s = true) (hy : y.cls ≠ "java/lang/invoke/MethodHandle" ∧ y.cls ≠ "java/lang/invoke/VarHandle")
    {W9 : Nat} {Pre : Pt → Array Value → Prop} {Post : Pt → Array Value → Option Value → Pt → Prop} (hK : Back l R p e below s args y 3 W9 Pre Post)
    {b : Addr} {cellB : Cell} (hcell : T.heap[b]? = some cellB) (hobj : cellB.vm.isStatics = false) (hcls : s.vm.findClass C = some cellB.cls)
    {g : JFrame} (hg : g.method = m) (hsize : g.locals.size = c.maxLocals) {argsL rest : List Value} (hlen : ∀ sig, parseMethodDescriptor y.desc = some sig → argsL.length = sig.parameters.length)
    (hstack : g.stack = argsL.reverse ++ .ref b :: rest) (hW : 2 * g.monitorRoom + (rest.map fun v => v.category).sum ≤ W9) (hdg : decode c.code g.pc = .ok (.invokevirtual index, 3))
    (hpre : ∀ vm₁, s.WarmedH vm₁ → Pre ⟨T.setVm vm₁, locs, cells, slots⟩ (Value.ref b :: argsL).toArray) :
    ∃ (v : Option Value) (vm₁ : Vm) (B : Pt), s.WarmedH vm₁ ∧ Stand p l e R s m args below meth c B.U B.locs B.cells B.slots ∧ Post ⟨T.setVm vm₁, locs, cells, slots⟩ (Value.ref b :: argsL).toArray v B ∧
      ∀ target, Steps p.tables e below (B.U.setTop { g with pc := g.pc + 3, stack := v.toList ++ rest }) target → Steps p.tables e below (T.setTop g) target := by
  obtain ⟨mk, methM, hnamed, hmethM, hstM, habM⟩ := Cond.instanceMethod_spec hinst
  obtain ⟨m8, methM', cM, hn8, hmethM', -, -, -, -, -, -, hsigM⟩ := Cond.codeWith_spec hcode
  cases Option.some.inj (hn8.symm.trans hnamed)
  cases hmethM.symm.trans hmethM'
  obtain ⟨c2, r2, m2, q1, q2, q3, q4, kP, hkP, hkPi⟩ := Cond.selects_spec hsel
  cases hcls.symm.trans q1
  cases (State.methodFound?_of_named hnamed hy).symm.trans q2
  cases hnamed.symm.trans q3
  have hselP : selectMethod e.platform s.vm cellB.cls mk = .method mk := by rw [Launch.admits_selectMethod X.admits]; exact q4
  obtain ⟨vm₁, X₁, hstep₁⟩ := X.invokevirtual hexec hown hlink hnamed hmethM hstM hkP hkPi hy (a := b) (cell := cellB) hcell
    (fun z h => by rw [h] at hobj; cases hobj) hselP hmethM habM hkP hkPi (g := g) hg (argsL := argsL) (rest := rest) (hlen _ hsigM) hstack hdg
  obtain ⟨v, B, X', hpost, hsteps⟩ := hK m meth c ⟨T.setVm vm₁, locs, cells, slots⟩ { g with stack := rest } (.invokevirtual index) mk (Value.ref b :: argsL).toArray X₁ hg hsize hdg hW (X₁.named hnamed) (hpre vm₁ X₁.warmed)
  exact ⟨v, vm₁, B, X₁.warmed, X', hpost, fun target h => hstep₁ _ fun acts => by rw [doInvoke_state]; exact hsteps.trans h⟩
abbrev vx_CVW (R : Room) (s : State) (args : Array Value) (own C : String) (index : Nat) (y : MethodName) (bytes : ByteArray) (maxL : Nat) (ret : Option FieldType) (hh : List (Nat × Nat × Nat × Nat)) (ws : List Cond) (rm : Room) (mc ms n : Nat) : Prop :=
  (rm.cells = mc ∧ rm.slots = ms ∧ rm.frames + 1 ≤ R.frames ∧ 8 + (maxL + 11) + rm.locals ≤ R.locals ∧ (∀ w ∈ ws, ∀ (a' : Array Value) (U : State), s.WarmedH U.vm → w.before a' U = true) ∧ Cond.codeWith y bytes maxL ret hh ∈ ws) ∧
  (Cond.codeWith y bytes maxL ret hh).before args s = true ∧ (Cond.initialized y.cls).before args s = true ∧ (y.cls ≠ "java/lang/invoke/MethodHandle" ∧ y.cls ≠ "java/lang/invoke/VarHandle") ∧
  (∀ sig, parseMethodDescriptor y.desc = some sig → n = sig.parameters.length) ∧ (Cond.methodLink own index y).before args s = true ∧ (Cond.instanceMethod y).before args s = true ∧ (Cond.selects C y y).before args s = true
theorem vx_cwVW {own C : String} {index maxL mc ms : Nat} {y : MethodName} {bytes : ByteArray} {ret : Option FieldType} {hh : List (Nat × Nat × Nat × Nat)} {Ts ws ws' : List Cond} {rm : Room} (n : Nat) (ht : ∀ w ∈ Ts, w.before args s = true) (hT : GoodIn Ts (wsV own index C y ws)) (hw : ws = Cond.codeWith y bytes maxL ret hh :: ws') (hrc : rm.cells = mc) (hrs : rm.slots = ms)
    (hd : y.cls = C ∧ y.cls ≠ "java/lang/invoke/MethodHandle" ∧ y.cls ≠ "java/lang/invoke/VarHandle" ∧ (parseMethodDescriptor y.desc).map (fun d => d.parameters.length) = some n) (hR : rm.frames + 1 ≤ R.frames ∧ 8 + (maxL + 11) + rm.locals ≤ R.locals) :
    vx_CVW R s args own C index y bytes maxL ret hh ws rm mc ms n := by
  obtain ⟨hC, hd⟩ := hd
  subst hC
  have ok : ∀ w ∈ wsV own index y.cls y ws, w.before args s = true := fun w h => ht w (hT w h).1
  have hG : GoodIn Ts ws := fun w h => hT w (by unfold wsV; exact List.mem_append_right _ h)
  have hc : Cond.codeWith y bytes maxL ret hh ∈ ws := by rw [hw]; exact List.mem_cons_self
  refine ⟨⟨hrc, hrs, hR.1, hR.2, pay_in ht hG, hc⟩, ht _ (hG _ hc).1, ok _ (by simp [wsV]), ⟨hd.1, hd.2.1⟩, fun sig h => ?_, ok _ (by simp [wsV]), ok _ (by simp [wsV]), ok _ (by simp [wsV])⟩
  have h2 := hd.2.2
  rw [h] at h2
  exact (Option.some.inj h2).symm
theorem vx_runVW {y : MethodName} {bytes cc : ByteArray} {maxL nL mc ms n index : Nat} {ret : Option FieldType} {hh : List (Nat × Nat × Nat × Nat)} {ws : List Cond} {rm : Room} {Pc : Array Value → State → Prop} {Qc : Array Value → State → Outcome → State → Prop} {free : Addr → Prop} {Ts : List Cond} {own C : String} {b : Addr} {As rest : List Value} {g : JFrame}
    (S : CallFix p m c cc nL s args Ts own) (hM : Met l y ws rm Pc Qc mc ms free) (cw : vx_CVW R s args own C index y bytes maxL ret hh ws rm mc ms n) (hp : PreV s H C b Pc As)
    (hg : g.method = m) (hn : As.length = n) (hsize : g.locals.size = nL) (hstack : g.stack = As.reverse ++ .ref b :: rest) (hW : 2 * g.monitorRoom + (rest.map fun v => v.category).sum ≤ 8) (hdg : decode cc g.pc = .ok (.invokevirtual index, 3)) (hf : cells + mc ≤ R.cells ∧ slots + ms ≤ R.slots) :
    va_Run p l e R s m args below meth c H locs cells slots mc ms g rest (Qc (Value.ref b :: As).toArray) free := by
  obtain ⟨⟨hrc, hrs, hfr, hlo, hws, hcw⟩, hcode, hini, hy, hlen, hl, hin, hse⟩ := cw
  have hK : Back l R p e below s args y 3 8 (PreOf R mc ms Pc) (PostOf Qc mc ms free) := va_backW (hh := hh) (bytes := bytes) (maxL := maxL) (ret := ret) hM hp.1 hrc hrs hfr hlo hws hcw (fun a' U hW => word_at hW (Or.inl (by first | rfl | simp [Cond.onTables, Cond.keeps, Cond.steady])) hini)
  obtain ⟨hx, hb, hml, ho, -⟩ := S
  obtain ⟨-, ⟨cellB, hcB, hoB, hclB⟩, hPc⟩ := hp
  intro T hT X
  obtain ⟨v, vm₁, ⟨U', l2, c2, s2⟩, hW₁, X', ⟨g', mk, t, L, e1, e2, hq, h1, hL, h2, h3⟩, st⟩ := vx_callVW X hx (C := C) (hh := hh) (bytes := bytes) (maxL := maxL) (ret := ret) ho hl hin hse hcode hy hK (by rw [hT]; exact hcB) hoB hclB hg (hsize.trans hml.symm) (argsL := As) (rest := rest) (fun sig h => hn.trans (hlen sig h)) hstack hW (by rw [hb]; exact hdg)
    (fun vm₁ hW₁ => ⟨hf.1, hf.2, hPc (T.setVm vm₁) hT hW₁⟩)
  dsimp only [Pt.U, Pt.locs, Pt.cells, Pt.slots] at X' e1 e2 h1 h2 h3 st
  subst h1; subst h2; subst h3
  exact ⟨v, (T.setVm vm₁).calling g' mk (Value.ref b :: As).toArray, t, U', L, hT, X', hL, e1, e2, hq, st⟩
section
variable {y : MethodName} {bytes cc : ByteArray} {maxL nL mc ms n index : Nat} {ret : Option FieldType} {ws : List Cond} {rm : Room} {Pc : Array Value → State → Prop} {Qc : Array Value → State → Outcome → State → Prop} {XC : String → State → State → Prop} {free : Addr → Prop} {Ts : List Cond} {own C : String} {b : Addr} {As rest : List Value} {g : JFrame}
theorem vx_runVX {hh : List (Nat × Nat × Nat × Nat)} (S : CallFix p m c cc nL s args Ts own) (hM : vx_Met l y ws rm Pc Qc XC mc ms free) (cw : vx_CVW R s args own C index y bytes maxL ret hh ws rm mc ms n) (hp : PreV s H C b Pc As)
    (hg : g.method = m) (hn : As.length = n) (hsize : g.locals.size = nL) (hstack : g.stack = As.reverse ++ .ref b :: rest) (hW : 2 * g.monitorRoom + (rest.map fun v => v.category).sum ≤ 8) (hdg : decode cc g.pc = .ok (.invokevirtual index, 3)) (hf : cells + mc ≤ R.cells ∧ slots + ms ≤ R.slots) :
    vx_Run p l e R s m args below meth c H locs cells slots mc ms g rest (Qc (Value.ref b :: As).toArray) XC free := by
  obtain ⟨⟨hrc, hrs, hfr, hlo, hws, hcw⟩, hcode, hini, hy, hlen, hl, hin, hse⟩ := cw
  have hK : vx_Back l R p e below s args y 3 8 (PreOf R mc ms Pc) (PostOf Qc mc ms free) (vx_Post XC mc ms free) := vx_backW (hh := hh) (bytes := bytes) (maxL := maxL) (ret := ret) hM hp.1 hrc hrs hfr hlo hws hcw (fun a' U hW => word_at hW (Or.inl (by first | rfl | simp [Cond.onTables, Cond.keeps, Cond.steady])) hini)
  obtain ⟨hx, hb, hml, ho, -⟩ := S
  obtain ⟨-, ⟨cellB, hcB, hoB, hclB⟩, hPc⟩ := hp
  intro T hT X
  rcases vx_callVX X hx (C := C) (hh := hh) (bytes := bytes) (maxL := maxL) (ret := ret) ho hl hin hse hcode hy hK (by rw [hT]; exact hcB) hoB hclB hg (hsize.trans hml.symm) (argsL := As) (rest := rest) (fun sig h => hn.trans (hlen sig h)) hstack hW (by rw [hb]; exact hdg)
    (fun vm₁ hW₁ => ⟨hf.1, hf.2, hPc (T.setVm vm₁) hT hW₁⟩) with ⟨v, vm₁, ⟨U', l2, c2, s2⟩, hW₁, X', ⟨g', mk, t, L, e1, e2, hq, h1, hL, h2, h3⟩, st⟩ | ⟨q, vm₁, ⟨U', l2, c2, s2⟩, hW₁, X', ⟨g', mk, t, L, E, ce, e1, e2, hq, hce, hcv, hcl, h1, hL, h2, h3⟩, st⟩
  · dsimp only [Pt.U, Pt.locs, Pt.cells, Pt.slots] at X' e1 e2 h1 h2 h3 st
    subst h1; subst h2; subst h3
    exact Or.inl ⟨v, (T.setVm vm₁).calling g' mk (Value.ref b :: As).toArray, t, U', L, hT, X', hL, e1, e2, hq, st⟩
  · dsimp only [Pt.U, Pt.locs, Pt.cells, Pt.slots] at X' e1 e2 h1 h2 h3 st hcl
    subst h1; subst h2; subst h3
    exact Or.inr ⟨q, (T.setVm vm₁).calling g' mk (Value.ref b :: As).toArray, t, U', L, E, ce, hT, X', hL, e1, e2, hq, hce, hcv, vx_cls hW₁ hcl, st⟩
theorem vx_runSX {hh : List (Nat × Nat × Nat × Nat)} (S : CallFix p m c cc nL s args Ts own) (hM : vx_Met l y ws rm Pc Qc XC mc ms free) (cw : vx_CSW R s args own index y bytes maxL ret hh ws rm mc ms n) (hp : PreS s H Pc As)
    (hg : g.method = m) (hn : As.length = n) (hsize : g.locals.size = nL) (hstack : g.stack = As.reverse ++ rest) (hW : 2 * g.monitorRoom + (rest.map fun v => v.category).sum ≤ 8) (hdg : decode cc g.pc = .ok (.invokestatic index, 3)) (hf : cells + mc ≤ R.cells ∧ slots + ms ≤ R.slots) :
    vx_Run p l e R s m args below meth c H locs cells slots mc ms g rest (Qc As.toArray) XC free := by
  obtain ⟨⟨hrc, hrs, hfr, hlo, hws, hcw⟩, hcode, hini, hy, hlen, hl, hstt⟩ := cw
  have hK : vx_Back l R p e below s args y 3 8 (PreOf R mc ms Pc) (PostOf Qc mc ms free) (vx_Post XC mc ms free) := vx_backW (hh := hh) (bytes := bytes) (maxL := maxL) (ret := ret) hM hp.1 hrc hrs hfr hlo hws hcw (fun a' U hW => word_at hW (Or.inl (by first | rfl | simp [Cond.onTables, Cond.keeps, Cond.steady])) hini)
  obtain ⟨hx, hb, hml, ho, -⟩ := S
  intro T hT X
  rcases vx_callSX X hx (hh := hh) (bytes := bytes) (maxL := maxL) (ret := ret) ho hl hstt hini hcode hy hK hg (hsize.trans hml.symm) (argsL := As) (rest := rest) (fun sig h => hn.trans (hlen sig h)) hstack hW (by rw [hb]; exact hdg)
    (fun vm₁ hW₁ => ⟨hf.1, hf.2, hp.2 (T.setVm vm₁) hT hW₁⟩) with ⟨v, vm₁, ⟨U', l2, c2, s2⟩, hW₁, X', ⟨g', mk, t, L, e1, e2, hq, h1, hL, h2, h3⟩, st⟩ | ⟨q, vm₁, ⟨U', l2, c2, s2⟩, hW₁, X', ⟨g', mk, t, L, E, ce, e1, e2, hq, hce, hcv, hcl, h1, hL, h2, h3⟩, st⟩
  · dsimp only [Pt.U, Pt.locs, Pt.cells, Pt.slots] at X' e1 e2 h1 h2 h3 st
    subst h1; subst h2; subst h3
    exact Or.inl ⟨v, (T.setVm vm₁).calling g' mk As.toArray, t, U', L, hT, X', hL, e1, e2, hq, st⟩
  · dsimp only [Pt.U, Pt.locs, Pt.cells, Pt.slots] at X' e1 e2 h1 h2 h3 st hcl
    subst h1; subst h2; subst h3
    exact Or.inr ⟨q, (T.setVm vm₁).calling g' mk As.toArray, t, U', L, E, ce, hT, X', hL, e1, e2, hq, hce, hcv, vx_cls hW₁ hcl, st⟩
end
end VXH
theorem vx_ofWH {l : Launch} {y : MethodName} {ws ws' : List Cond} {rm : Room} {Pc : Array Value → State → Prop} {Qc : Array Value → State → Outcome → State → Prop} {XC : String → State → State → Prop} {mc ms : Nat} {free : Addr → Prop} {cc : ByteArray} {maxL : Nat} {ret : Option FieldType} {hh : List (Nat × Nat × Nat × Nat)}
    (hy : plainName y.cls = true) (hw : ws = Cond.codeWith y cc maxL ret hh :: ws')
    (body : ∀ p e s m args below meth c s₁, BodyLoose p l y (headSpec ws rm) cc maxL ret e s m args below meth c s₁ → c.maxLocals = maxL → Pc args s →
      W p l e (headSpec ws rm).room s m args below meth c s.heap [] 0 0 (vx_MQ below Qc XC args s mc ms free) (entryFrame m args maxL)) : vx_Met l y ws rm Pc Qc XC mc ms free := by
  refine MetFree.of_bodyS (code := cc) (maxLocals := maxL) (ret := ret) hy ?_ ?_
  · intro args s m h hn
    obtain ⟨m9, meth, c, hn9, h1, h2, h3, h4, -, h5, h6, -⟩ := Cond.codeWith_spec (atoms_spec (ws := ws) h _ (by rw [hw]; exact List.mem_cons_self))
    cases hn.symm.trans hn9
    exact ⟨meth, c, h1, h2, h3, h4, h5, h6⟩
  · intro p e s m args below meth c s₁ B hml hP _
    have hh0 : s₁.heap = s.heap := by rw [B.state]; rfl
    obtain ⟨t, a1, o, b1, b2, b3⟩ := body p e s m args below meth c s₁ B hml hP s₁ hh0 (Stand.of_body B)
    exact ⟨t, o, a1, b1, b2, b3⟩
/-! ===== END ===== -/

/-! ===== BEGIN printed: names, fields, word lists, decode rows ===== -/
end
section
def RX0 : String := "VinegarLoft$Barrel"
def TX0 : u_T := fun k => match k with
  | 0 => ("VinegarLoft$Barrel", "wood", "I", false)
  | 1 => ("VinegarLoft$Barrel", "size", "I", false)
  | 2 => ("VinegarLoft$Barrel", "litres", "D", false)
  | 3 => ("VinegarLoft$Barrel", "age", "D", false)
  | 4 => ("VinegarLoft$Barrel", "acid", "D", false)
  | _ => ("VinegarLoft$Barrel", "sugar", "D", false)
def tyX0 : Nat → FieldType := fun k => match k with
  | 0 => .int
  | 1 => .int
  | 2 => .double
  | 3 => .double
  | 4 => .double
  | _ => .double
abbrev wsX00 : List Cond := u_ws RX0 TX0 6
theorem nmX0 : ∀ a, a < 6 → ∀ b, b < 6 → a ≠ b → (TX0 a).2.1 ≠ (TX0 b).2.1 := by decide +kernel
theorem tyX0_ok : ∀ k, k < 6 → parseFieldDescriptor (TX0 k).2.2.1 = some (tyX0 k) := by decide +kernel
abbrev cX0_init : ByteArray := prog_2_method_1_code
def yX0_init : MethodName := ⟨RX0, "<init>", "()V"⟩
abbrev cX0_copyFrom : ByteArray := prog_2_method_2_code
def yX0_copyFrom : MethodName := ⟨RX0, "copyFrom", "(LVinegarLoft$Barrel;)V"⟩
abbrev cX0_isEmpty : ByteArray := prog_2_method_3_code
def yX0_isEmpty : MethodName := ⟨RX0, "isEmpty", "()Z"⟩
abbrev cX0_clear : ByteArray := prog_2_method_4_code
def yX0_clear : MethodName := ⟨RX0, "clear", "()V"⟩
abbrev cX0_mixIn : ByteArray := prog_2_method_5_code
def yX0_mixIn : MethodName := ⟨RX0, "mixIn", "(DDDD)V"⟩
abbrev cX0_takeOut : ByteArray := prog_2_method_6_code
def yX0_takeOut : MethodName := ⟨RX0, "takeOut", "(D)V"⟩
abbrev cX0_spendYear : ByteArray := prog_2_method_7_code
def yX0_spendYear : MethodName := ⟨RX0, "spendYear", "(D)D"⟩
abbrev cX0_sour : ByteArray := prog_2_method_8_code
def yX0_sour : MethodName := ⟨RX0, "sour", "()V"⟩
abbrev cX0_taste : ByteArray := prog_2_method_9_code
def yX0_taste : MethodName := ⟨RX0, "taste", "()D"⟩
abbrev cX0_mixed : ByteArray := prog_2_method_10_code
def yX0_mixed : MethodName := ⟨RX0, "mixed", "(DDDD)D"⟩
abbrev cX0_share : ByteArray := prog_2_method_11_code
def yX0_share : MethodName := ⟨RX0, "share", "(I)D"⟩
def RX1 : String := "VinegarLoft$Row"
def TX1 : u_T := fun k => match k with
  | 0 => ("VinegarLoft$Row", "line", "[LVinegarLoft$Barrel;", true)
  | 1 => ("VinegarLoft$Row", "count", "I", false)
  | 2 => ("VinegarLoft$Row", "warmth", "I", false)
  | 3 => ("VinegarLoft$Row", "drawnFrom", "I", false)
  | _ => ("VinegarLoft$Row", "mayBeDrawn", "D", false)
def tyX1 : Nat → FieldType := fun k => match k with
  | 0 => .array (.object "VinegarLoft$Barrel")
  | 1 => .int
  | 2 => .int
  | 3 => .int
  | _ => .double
abbrev wsX10 : List Cond := u_ws RX1 TX1 5
theorem nmX1 : ∀ a, a < 5 → ∀ b, b < 5 → a ≠ b → (TX1 a).2.1 ≠ (TX1 b).2.1 := by decide +kernel
theorem tyX1_ok : ∀ k, k < 5 → parseFieldDescriptor (TX1 k).2.2.1 = some (tyX1 k) := by decide +kernel
abbrev cX1_init : ByteArray := prog_3_method_1_code
def yX1_init : MethodName := ⟨RX1, "<init>", "()V"⟩
abbrev cX1_copyFrom : ByteArray := prog_3_method_2_code
def yX1_copyFrom : MethodName := ⟨RX1, "copyFrom", "(LVinegarLoft$Row;)V"⟩
abbrev cX1_isComplete : ByteArray := prog_3_method_3_code
def yX1_isComplete : MethodName := ⟨RX1, "isComplete", "()Z"⟩
abbrev cX1_largestNext : ByteArray := prog_3_method_4_code
def yX1_largestNext : MethodName := ⟨RX1, "largestNext", "()I"⟩
abbrev cX1_putBehind : ByteArray := prog_3_method_5_code
def yX1_putBehind : MethodName := ⟨RX1, "putBehind", "(II)I"⟩
abbrev cX1_pourMust : ByteArray := prog_3_method_6_code
def yX1_pourMust : MethodName := ⟨RX1, "pourMust", "(I)D"⟩
abbrev cX1_passDown : ByteArray := prog_3_method_7_code
def yX1_passDown : MethodName := ⟨RX1, "passDown", "()D"⟩
abbrev cX1_passBetween : ByteArray := prog_3_method_8_code
def yX1_passBetween : MethodName := ⟨RX1, "passBetween", "(LVinegarLoft$Barrel;LVinegarLoft$Barrel;)D"⟩
abbrev cX1_ageAll : ByteArray := prog_3_method_9_code
def yX1_ageAll : MethodName := ⟨RX1, "ageAll", "()D"⟩
abbrev cX1_draughtNow : ByteArray := prog_3_method_10_code
def yX1_draughtNow : MethodName := ⟨RX1, "draughtNow", "()D"⟩
abbrev cX1_eldest : ByteArray := prog_3_method_11_code
def yX1_eldest : MethodName := ⟨RX1, "eldest", "()I"⟩
abbrev cX1_greatestAge : ByteArray := prog_3_method_12_code
def yX1_greatestAge : MethodName := ⟨RX1, "greatestAge", "()D"⟩
abbrev cX1_bottlesReady : ByteArray := prog_3_method_13_code
def yX1_bottlesReady : MethodName := ⟨RX1, "bottlesReady", "()I"⟩
abbrev cX1_takeBottles : ByteArray := prog_3_method_14_code
def yX1_takeBottles : MethodName := ⟨RX1, "takeBottles", "(I)V"⟩
abbrev cX1_allLitres : ByteArray := prog_3_method_15_code
def yX1_allLitres : MethodName := ⟨RX1, "allLitres", "()D"⟩
abbrev cX1_litresTimesAge : ByteArray := prog_3_method_16_code
def yX1_litresTimesAge : MethodName := ⟨RX1, "litresTimesAge", "()D"⟩
abbrev cX1_litresTimesSugar : ByteArray := prog_3_method_17_code
def yX1_litresTimesSugar : MethodName := ⟨RX1, "litresTimesSugar", "()D"⟩
def RX2 : String := "VinegarLoft"
def TX2 : u_T := fun k => match k with
  | 0 => ("VinegarLoft", "row", "LVinegarLoft$Row;", true)
  | 1 => ("VinegarLoft", "trial", "LVinegarLoft$Row;", true)
  | 2 => ("VinegarLoft", "drawnByKind", "[I", true)
  | _ => ("VinegarLoft", "yearsGone", "I", false)
def tyX2 : Nat → FieldType := fun k => match k with
  | 0 => .object "VinegarLoft$Row"
  | 1 => .object "VinegarLoft$Row"
  | 2 => .array .int
  | _ => .int
abbrev wsX20 : List Cond := u_ws RX2 TX2 4
theorem nmX2 : ∀ a, a < 4 → ∀ b, b < 4 → a ≠ b → (TX2 a).2.1 ≠ (TX2 b).2.1 := by decide +kernel
theorem tyX2_ok : ∀ k, k < 4 → parseFieldDescriptor (TX2 k).2.2.1 = some (tyX2 k) := by decide +kernel
abbrev cX2_init : ByteArray := prog_1_method_1_code
def yX2_init : MethodName := ⟨RX2, "<init>", "()V"⟩
abbrev cX2_add : ByteArray := prog_1_method_2_code
def yX2_add : MethodName := ⟨RX2, "add", "(II)I"⟩
abbrev cX2_fill : ByteArray := prog_1_method_3_code
def yX2_fill : MethodName := ⟨RX2, "fill", "(I)D"⟩
abbrev cX2_topUp : ByteArray := prog_1_method_4_code
def yX2_topUp : MethodName := ⟨RX2, "topUp", "()D"⟩
abbrev cX2_year : ByteArray := prog_1_method_5_code
def yX2_year : MethodName := ⟨RX2, "year", "()D"⟩
abbrev cX2_draw : ByteArray := prog_1_method_6_code
def yX2_draw : MethodName := ⟨RX2, "draw", "(I)I"⟩
abbrev cX2_pourAway : ByteArray := prog_1_method_7_code
def yX2_pourAway : MethodName := ⟨RX2, "pourAway", "(I)D"⟩
abbrev cX2_setWarmth : ByteArray := prog_1_method_8_code
def yX2_setWarmth : MethodName := ⟨RX2, "setWarmth", "(I)V"⟩
abbrev cX2_barrels : ByteArray := prog_1_method_9_code
def yX2_barrels : MethodName := ⟨RX2, "barrels", "()I"⟩
abbrev cX2_litresIn : ByteArray := prog_1_method_10_code
def yX2_litresIn : MethodName := ⟨RX2, "litresIn", "(I)D"⟩
abbrev cX2_ageOf : ByteArray := prog_1_method_11_code
def yX2_ageOf : MethodName := ⟨RX2, "ageOf", "(I)D"⟩
abbrev cX2_acidOf : ByteArray := prog_1_method_12_code
def yX2_acidOf : MethodName := ⟨RX2, "acidOf", "(I)D"⟩
abbrev cX2_sugarOf : ByteArray := prog_1_method_13_code
def yX2_sugarOf : MethodName := ⟨RX2, "sugarOf", "(I)D"⟩
abbrev cX2_tasteOf : ByteArray := prog_1_method_14_code
def yX2_tasteOf : MethodName := ⟨RX2, "tasteOf", "(I)D"⟩
abbrev cX2_oldest : ByteArray := prog_1_method_15_code
def yX2_oldest : MethodName := ⟨RX2, "oldest", "()I"⟩
abbrev cX2_drawable : ByteArray := prog_1_method_16_code
def yX2_drawable : MethodName := ⟨RX2, "drawable", "()I"⟩
abbrev cX2_bottles : ByteArray := prog_1_method_17_code
def yX2_bottles : MethodName := ⟨RX2, "bottles", "(I)I"⟩
abbrev cX2_years : ByteArray := prog_1_method_18_code
def yX2_years : MethodName := ⟨RX2, "years", "()I"⟩
abbrev cX2_meanAge : ByteArray := prog_1_method_19_code
def yX2_meanAge : MethodName := ⟨RX2, "meanAge", "()D"⟩
abbrev cX2_meanSugar : ByteArray := prog_1_method_20_code
def yX2_meanSugar : MethodName := ⟨RX2, "meanSugar", "()D"⟩
abbrev cX2_firstBottleIn : ByteArray := prog_1_method_21_code
def yX2_firstBottleIn : MethodName := ⟨RX2, "firstBottleIn", "()I"⟩
abbrev cX2_barrelNumbered : ByteArray := prog_1_method_22_code
def yX2_barrelNumbered : MethodName := ⟨RX2, "barrelNumbered", "(I)LVinegarLoft$Barrel;"⟩
abbrev cX2_kindAt : ByteArray := prog_1_method_23_code
def yX2_kindAt : MethodName := ⟨RX2, "kindAt", "(D)I"⟩
def RX3 : String := "VinegarLoftModel"
def TX3 : u_T := fun k => match k with
  | _ => ("", "", "", false)
def tyX3 : Nat → FieldType := fun k => match k with
  | _ => .int
abbrev wsX30 : List Cond := u_ws RX3 TX3 0
theorem nmX3 : ∀ a, a < 0 → ∀ b, b < 0 → a ≠ b → (TX3 a).2.1 ≠ (TX3 b).2.1 := by decide +kernel
theorem tyX3_ok : ∀ k, k < 0 → parseFieldDescriptor (TX3 k).2.2.1 = some (tyX3 k) := by decide +kernel
def RJ0 : String := "java/lang/String"
def TJ0 : u_T := fun k => match k with
  | _ => ("", "", "", false)
def tyJ0 : Nat → FieldType := fun k => match k with
  | _ => .int
abbrev wsJ00 : List Cond := u_ws RJ0 TJ0 0
theorem nmJ0 : ∀ a, a < 0 → ∀ b, b < 0 → a ≠ b → (TJ0 a).2.1 ≠ (TJ0 b).2.1 := by decide +kernel
theorem tyJ0_ok : ∀ k, k < 0 → parseFieldDescriptor (TJ0 k).2.2.1 = some (tyJ0 k) := by decide +kernel
def RL : String := "VinegarLoftLaw"
abbrev cL_drawn : ByteArray := method_2_code
def yL_drawn : MethodName := ⟨RL, "drawn", "([III)I"⟩
abbrev cL_isNear : ByteArray := method_3_code
def yL_isNear : MethodName := ⟨RL, "isNear", "(DD)Z"⟩
abbrev cL_litres : ByteArray := method_4_code
def yL_litres : MethodName := ⟨RL, "litres", "(LVinegarLoft;)D"⟩
abbrev cL_acid : ByteArray := method_5_code
def yL_acid : MethodName := ⟨RL, "acid", "(LVinegarLoft;)D"⟩
abbrev cL_isMoved : ByteArray := method_6_code
def yL_isMoved : MethodName := ⟨RL, "isMoved", "(LVinegarLoft;)Z"⟩
abbrev cL_isAged : ByteArray := method_7_code
def yL_isAged : MethodName := ⟨RL, "isAged", "(LVinegarLoft;)Z"⟩
abbrev cL_isFilled : ByteArray := method_8_code
def yL_isFilled : MethodName := ⟨RL, "isFilled", "(LVinegarLoft;II)Z"⟩
abbrev cL_isBottled : ByteArray := method_9_code
def yL_isBottled : MethodName := ⟨RL, "isBottled", "(LVinegarLoft;I)Z"⟩
abbrev cL_isPoured : ByteArray := method_10_code
def yL_isPoured : MethodName := ⟨RL, "isPoured", "(LVinegarLoft;I)Z"⟩
abbrev cL_isAsked : ByteArray := method_11_code
def yL_isAsked : MethodName := ⟨RL, "isAsked", "(LVinegarLoft;)Z"⟩
abbrev cL_law : ByteArray := code
def yL_law : MethodName := ⟨RL, "law", "([I)Z"⟩
def wsX0_init : List Cond := .code yX0_init cX0_init 1 none :: ([.methodLink RX0 1 objectInit, .instanceMethod objectInit, .code objectInit ⟨#[0xb1]⟩ 1 none])
def wsX0_copyFrom : List Cond := .code yX0_copyFrom cX0_copyFrom 2 none :: ([.fieldLink RX0 7 "VinegarLoft$Barrel" "wood" "I", .fieldLink RX0 13 "VinegarLoft$Barrel" "size" "I", .fieldLink RX0 16 "VinegarLoft$Barrel" "litres" "D", .fieldLink RX0 20 "VinegarLoft$Barrel" "age" "D", .fieldLink RX0 23 "VinegarLoft$Barrel" "acid" "D", .fieldLink RX0 26 "VinegarLoft$Barrel" "sugar" "D"] ++ wsX00)
def wsX0_isEmpty : List Cond := .code yX0_isEmpty cX0_isEmpty 1 (some .boolean) :: ([.fieldLink RX0 16 "VinegarLoft$Barrel" "litres" "D"] ++ wsX00)
def wsX0_clear : List Cond := .code yX0_clear cX0_clear 1 none :: ([.fieldLink RX0 16 "VinegarLoft$Barrel" "litres" "D", .fieldLink RX0 20 "VinegarLoft$Barrel" "age" "D", .fieldLink RX0 23 "VinegarLoft$Barrel" "acid" "D", .fieldLink RX0 26 "VinegarLoft$Barrel" "sugar" "D"] ++ wsX00)
def wsX0_mixed : List Cond := .code yX0_mixed cX0_mixed 10 (some .double) :: ([])
def wsX0_mixIn : List Cond := .code yX0_mixIn cX0_mixIn 9 none :: ([.fieldLink RX0 16 "VinegarLoft$Barrel" "litres" "D", .fieldLink RX0 20 "VinegarLoft$Barrel" "age" "D", .fieldLink RX0 23 "VinegarLoft$Barrel" "acid" "D", .fieldLink RX0 26 "VinegarLoft$Barrel" "sugar" "D", .methodLink RX0 29 yX0_mixed, .static yX0_mixed, .initialized RX0, .code yX0_mixed cX0_mixed 10 (some .double)] ++ wsX00)
def wsX0_takeOut : List Cond := .code yX0_takeOut cX0_takeOut 3 none :: ([.fieldLink RX0 16 "VinegarLoft$Barrel" "litres" "D", .methodLink RX0 33 yX0_clear, .instanceMethod yX0_clear, .selects RX0 yX0_clear yX0_clear, .initialized RX0, .code yX0_clear cX0_clear 1 none, .fieldLink RX0 20 "VinegarLoft$Barrel" "age" "D", .fieldLink RX0 23 "VinegarLoft$Barrel" "acid" "D", .fieldLink RX0 26 "VinegarLoft$Barrel" "sugar" "D"] ++ wsX00)
def wsX0_share : List Cond := .code yX0_share cX0_share 1 (some .double) :: ([.constantDouble RX0 71 (4581421828931458171), .constantDouble RX0 73 (4584304132692975288), .constantDouble RX0 75 (4585204852618449388), .constantDouble RX0 77 (4582862980812216730)])
def wsX0_sour : List Cond := .code yX0_sour cX0_sour 3 none :: ([.fieldLink RX0 26 "VinegarLoft$Barrel" "sugar" "D", .constantDouble RX0 53 (4626322717216342016), .fieldLink RX0 23 "VinegarLoft$Barrel" "acid" "D", .constantDouble RX0 55 (4620693217682128896), .constantDouble RX0 57 (4603579539098121011), .constantDouble RX0 59 (4605380978949069210), .constantDouble RX0 61 (4591870180066957722), .constantDouble RX0 63 (4622945017495814144)] ++ wsX00)
def wsX0_spendYear_r1 : List Cond := [Cond.fieldLink RX0 16 "VinegarLoft$Barrel" "litres" "D", Cond.fieldLink RX0 7 "VinegarLoft$Barrel" "wood" "I", Cond.fieldLink RX0 26 "VinegarLoft$Barrel" "sugar" "D", Cond.constantDouble RX0 48 (4634626229029306368), Cond.fieldLink RX0 20 "VinegarLoft$Barrel" "age" "D", Cond.methodLink RX0 36 yX0_share, Cond.static yX0_share, Cond.initialized RX0, Cond.code yX0_share cX0_share 1 (some .double), Cond.constantDouble RX0 71 (4581421828931458171), Cond.constantDouble RX0 73 (4584304132692975288), Cond.constantDouble RX0 75 (4585204852618449388), Cond.constantDouble RX0 77 (4582862980812216730), Cond.methodLink RX0 40 yX0_takeOut, Cond.instanceMethod yX0_takeOut, Cond.selects RX0 yX0_takeOut yX0_takeOut, Cond.code yX0_takeOut cX0_takeOut 3 none, Cond.methodLink RX0 33 yX0_clear, Cond.instanceMethod yX0_clear, Cond.selects RX0 yX0_clear yX0_clear, Cond.code yX0_clear cX0_clear 1 none, Cond.fieldLink RX0 23 "VinegarLoft$Barrel" "acid" "D", Cond.methodLink RX0 44 yX0_isEmpty, Cond.instanceMethod yX0_isEmpty]
def wsX0_spendYear_r2 : List Cond := [Cond.selects RX0 yX0_isEmpty yX0_isEmpty, Cond.code yX0_isEmpty cX0_isEmpty 1 (some .boolean), Cond.methodLink RX0 50 yX0_sour, Cond.instanceMethod yX0_sour, Cond.selects RX0 yX0_sour yX0_sour, Cond.code yX0_sour cX0_sour 3 none, Cond.constantDouble RX0 53 (4626322717216342016), Cond.constantDouble RX0 55 (4620693217682128896), Cond.constantDouble RX0 57 (4603579539098121011), Cond.constantDouble RX0 59 (4605380978949069210), Cond.constantDouble RX0 61 (4591870180066957722), Cond.constantDouble RX0 63 (4622945017495814144)]
def wsX0_spendYear : List Cond := .code yX0_spendYear cX0_spendYear 9 (some .double) :: ((wsX0_spendYear_r1 ++ wsX0_spendYear_r2) ++ wsX00)
def wsX0_taste : List Cond := .code yX0_taste cX0_taste 5 (some .double) :: ([.fieldLink RX0 23 "VinegarLoft$Barrel" "acid" "D", .constantDouble RX0 65 (4618441417868443648), .constantDouble RX0 67 (4602678819172646912), .fieldLink RX0 20 "VinegarLoft$Barrel" "age" "D", .constantDouble RX0 59 (4605380978949069210), .fieldLink RX0 26 "VinegarLoft$Barrel" "sugar" "D", .constantDouble RX0 69 (4613937818241073152), .methodLink RX0 44 yX0_isEmpty, .instanceMethod yX0_isEmpty, .selects RX0 yX0_isEmpty yX0_isEmpty, .initialized RX0, .code yX0_isEmpty cX0_isEmpty 1 (some .boolean), .fieldLink RX0 16 "VinegarLoft$Barrel" "litres" "D"] ++ wsX00)
def wsX1_init : List Cond := .code yX1_init cX1_init 2 none :: ([.methodLink RX1 3 objectInit, .instanceMethod objectInit, .code objectInit ⟨#[0xb1]⟩ 1 none, .classLink RX1 9 RX0, .fieldLink RX1 11 "VinegarLoft$Row" "line" "[LVinegarLoft$Barrel;", .instantiable RX0 6, .initialized RX0, .fieldLink RX1 18 "VinegarLoft$Row" "count" "I", .fieldLink RX1 22 "VinegarLoft$Row" "warmth" "I", .fieldLink RX1 25 "VinegarLoft$Row" "drawnFrom" "I", .fieldLink RX1 28 "VinegarLoft$Row" "mayBeDrawn" "D", .instanceMethod yX0_init, .code yX0_init cX0_init 1 none, .methodLink RX0 1 objectInit] ++ wsX10 ++ wsX00)
def wsX1_copyFrom : List Cond := .code yX1_copyFrom cX1_copyFrom 3 none :: ([.fieldLink RX1 18 "VinegarLoft$Row" "count" "I", .fieldLink RX1 22 "VinegarLoft$Row" "warmth" "I", .fieldLink RX1 25 "VinegarLoft$Row" "drawnFrom" "I", .fieldLink RX1 28 "VinegarLoft$Row" "mayBeDrawn" "D", .fieldLink RX1 11 "VinegarLoft$Row" "line" "[LVinegarLoft$Barrel;", .methodLink RX1 32 yX0_copyFrom, .instanceMethod yX0_copyFrom, .selects RX0 yX0_copyFrom yX0_copyFrom, .initialized RX0, .code yX0_copyFrom cX0_copyFrom 2 none, .fieldLink RX0 7 "VinegarLoft$Barrel" "wood" "I", .fieldLink RX0 13 "VinegarLoft$Barrel" "size" "I", .fieldLink RX0 16 "VinegarLoft$Barrel" "litres" "D", .fieldLink RX0 20 "VinegarLoft$Barrel" "age" "D", .fieldLink RX0 23 "VinegarLoft$Barrel" "acid" "D", .fieldLink RX0 26 "VinegarLoft$Barrel" "sugar" "D"] ++ wsX10 ++ wsX00)
def wsX1_isComplete : List Cond := .code yX1_isComplete cX1_isComplete 1 (some .boolean) :: ([.fieldLink RX1 18 "VinegarLoft$Row" "count" "I", .fieldLink RX1 11 "VinegarLoft$Row" "line" "[LVinegarLoft$Barrel;"] ++ wsX10)
def wsX1_largestNext : List Cond := .code yX1_largestNext cX1_largestNext 1 (some .int) :: ([.fieldLink RX1 18 "VinegarLoft$Row" "count" "I", .fieldLink RX1 11 "VinegarLoft$Row" "line" "[LVinegarLoft$Barrel;", .fieldLink RX1 36 "VinegarLoft$Barrel" "size" "I"] ++ wsX10 ++ wsX00)
def wsX1_putBehind : List Cond := .code yX1_putBehind cX1_putBehind 4 (some .int) :: ([.fieldLink RX1 11 "VinegarLoft$Row" "line" "[LVinegarLoft$Barrel;", .fieldLink RX1 18 "VinegarLoft$Row" "count" "I", .fieldLink RX1 43 "VinegarLoft$Barrel" "wood" "I", .fieldLink RX1 36 "VinegarLoft$Barrel" "size" "I", .methodLink RX1 39 yX1_isComplete, .instanceMethod yX1_isComplete, .selects RX1 yX1_isComplete yX1_isComplete, .initialized RX1, .code yX1_isComplete cX1_isComplete 1 (some .boolean), .methodLink RX1 46 yX0_clear, .instanceMethod yX0_clear, .selects RX0 yX0_clear yX0_clear, .initialized RX0, .code yX0_clear cX0_clear 1 none, .fieldLink RX0 16 "VinegarLoft$Barrel" "litres" "D", .fieldLink RX0 20 "VinegarLoft$Barrel" "age" "D", .fieldLink RX0 23 "VinegarLoft$Barrel" "acid" "D", .fieldLink RX0 26 "VinegarLoft$Barrel" "sugar" "D"] ++ wsX10 ++ wsX00)
def wsX1_pourMust : List Cond := .code yX1_pourMust cX1_pourMust 7 (some .double) :: ([.fieldLink RX1 18 "VinegarLoft$Row" "count" "I", .fieldLink RX1 11 "VinegarLoft$Row" "line" "[LVinegarLoft$Barrel;", .fieldLink RX1 36 "VinegarLoft$Barrel" "size" "I", .fieldLink RX1 49 "VinegarLoft$Barrel" "litres" "D", .constantDouble RX1 52 (4629137466983448576), .methodLink RX1 54 yX0_mixIn, .instanceMethod yX0_mixIn, .selects RX0 yX0_mixIn yX0_mixIn, .initialized RX0, .code yX0_mixIn cX0_mixIn 9 none, .fieldLink RX0 16 "VinegarLoft$Barrel" "litres" "D", .fieldLink RX0 20 "VinegarLoft$Barrel" "age" "D", .fieldLink RX0 23 "VinegarLoft$Barrel" "acid" "D", .fieldLink RX0 26 "VinegarLoft$Barrel" "sugar" "D", .methodLink RX0 29 yX0_mixed, .static yX0_mixed, .code yX0_mixed cX0_mixed 10 (some .double)] ++ wsX10 ++ wsX00)
def wsX1_passBetween_r1 : List Cond := [Cond.constantDouble RX1 62 (4606281698874543309), Cond.fieldLink RX1 36 "VinegarLoft$Barrel" "size" "I", Cond.fieldLink RX1 49 "VinegarLoft$Barrel" "litres" "D", Cond.constantDouble RX1 64 (4602678819172646912), Cond.fieldLink RX1 66 "VinegarLoft$Barrel" "age" "D", Cond.fieldLink RX1 69 "VinegarLoft$Barrel" "acid" "D", Cond.fieldLink RX1 72 "VinegarLoft$Barrel" "sugar" "D", Cond.methodLink RX1 54 yX0_mixIn, Cond.instanceMethod yX0_mixIn, Cond.selects RX0 yX0_mixIn yX0_mixIn, Cond.initialized RX0, Cond.code yX0_mixIn cX0_mixIn 9 none, Cond.fieldLink RX0 16 "VinegarLoft$Barrel" "litres" "D", Cond.fieldLink RX0 20 "VinegarLoft$Barrel" "age" "D", Cond.fieldLink RX0 23 "VinegarLoft$Barrel" "acid" "D", Cond.fieldLink RX0 26 "VinegarLoft$Barrel" "sugar" "D", Cond.methodLink RX0 29 yX0_mixed, Cond.static yX0_mixed, Cond.code yX0_mixed cX0_mixed 10 (some .double), Cond.methodLink RX1 75 yX0_takeOut, Cond.instanceMethod yX0_takeOut, Cond.selects RX0 yX0_takeOut yX0_takeOut, Cond.code yX0_takeOut cX0_takeOut 3 none, Cond.methodLink RX0 33 yX0_clear]
def wsX1_passBetween_r2 : List Cond := [Cond.instanceMethod yX0_clear, Cond.selects RX0 yX0_clear yX0_clear, Cond.code yX0_clear cX0_clear 1 none]
def wsX1_passBetween : List Cond := .code yX1_passBetween cX1_passBetween 8 (some .double) :: ((wsX1_passBetween_r1 ++ wsX1_passBetween_r2) ++ wsX00)
def wsX1_passDown_r1 : List Cond := [Cond.fieldLink RX1 18 "VinegarLoft$Row" "count" "I", Cond.fieldLink RX1 11 "VinegarLoft$Row" "line" "[LVinegarLoft$Barrel;", Cond.methodLink RX1 58 yX1_passBetween, Cond.static yX1_passBetween, Cond.initialized RX1, Cond.code yX1_passBetween cX1_passBetween 8 (some .double), Cond.constantDouble RX1 62 (4606281698874543309), Cond.fieldLink RX1 36 "VinegarLoft$Barrel" "size" "I", Cond.fieldLink RX1 49 "VinegarLoft$Barrel" "litres" "D", Cond.constantDouble RX1 64 (4602678819172646912), Cond.fieldLink RX1 66 "VinegarLoft$Barrel" "age" "D", Cond.fieldLink RX1 69 "VinegarLoft$Barrel" "acid" "D", Cond.fieldLink RX1 72 "VinegarLoft$Barrel" "sugar" "D", Cond.methodLink RX1 54 yX0_mixIn, Cond.instanceMethod yX0_mixIn, Cond.selects RX0 yX0_mixIn yX0_mixIn, Cond.initialized RX0, Cond.code yX0_mixIn cX0_mixIn 9 none, Cond.fieldLink RX0 16 "VinegarLoft$Barrel" "litres" "D", Cond.fieldLink RX0 20 "VinegarLoft$Barrel" "age" "D", Cond.fieldLink RX0 23 "VinegarLoft$Barrel" "acid" "D", Cond.fieldLink RX0 26 "VinegarLoft$Barrel" "sugar" "D", Cond.methodLink RX0 29 yX0_mixed, Cond.static yX0_mixed]
def wsX1_passDown_r2 : List Cond := [Cond.code yX0_mixed cX0_mixed 10 (some .double), Cond.methodLink RX1 75 yX0_takeOut, Cond.instanceMethod yX0_takeOut, Cond.selects RX0 yX0_takeOut yX0_takeOut, Cond.code yX0_takeOut cX0_takeOut 3 none, Cond.methodLink RX0 33 yX0_clear, Cond.instanceMethod yX0_clear, Cond.selects RX0 yX0_clear yX0_clear, Cond.code yX0_clear cX0_clear 1 none]
def wsX1_passDown : List Cond := .code yX1_passDown cX1_passDown 4 (some .double) :: ((wsX1_passDown_r1 ++ wsX1_passDown_r2) ++ wsX10 ++ wsX00)
def wsX1_draughtNow : List Cond := .code yX1_draughtNow cX1_draughtNow 3 (some .double) :: ([.constantDouble RX1 96 (4587366580439587226), .fieldLink RX1 22 "VinegarLoft$Row" "warmth" "I", .constantDouble RX1 98 (4596373779694328218)] ++ wsX10)
def wsX1_eldest : List Cond := .code yX1_eldest cX1_eldest 5 (some .int) :: ([.fieldLink RX1 18 "VinegarLoft$Row" "count" "I", .fieldLink RX1 11 "VinegarLoft$Row" "line" "[LVinegarLoft$Barrel;", .fieldLink RX1 66 "VinegarLoft$Barrel" "age" "D", .methodLink RX1 83 yX0_isEmpty, .instanceMethod yX0_isEmpty, .selects RX0 yX0_isEmpty yX0_isEmpty, .initialized RX0, .code yX0_isEmpty cX0_isEmpty 1 (some .boolean), .fieldLink RX0 16 "VinegarLoft$Barrel" "litres" "D"] ++ wsX10 ++ wsX00)
def wsX1_ageAll_r1 : List Cond := [Cond.fieldLink RX1 18 "VinegarLoft$Row" "count" "I", Cond.fieldLink RX1 11 "VinegarLoft$Row" "line" "[LVinegarLoft$Barrel;", Cond.fieldLink RX1 25 "VinegarLoft$Row" "drawnFrom" "I", Cond.constantDouble RX1 94 (4598175219545276416), Cond.fieldLink RX1 49 "VinegarLoft$Barrel" "litres" "D", Cond.fieldLink RX1 28 "VinegarLoft$Row" "mayBeDrawn" "D", Cond.methodLink RX1 79 yX1_draughtNow, Cond.instanceMethod yX1_draughtNow, Cond.selects RX1 yX1_draughtNow yX1_draughtNow, Cond.initialized RX1, Cond.code yX1_draughtNow cX1_draughtNow 3 (some .double), Cond.constantDouble RX1 96 (4587366580439587226), Cond.fieldLink RX1 22 "VinegarLoft$Row" "warmth" "I", Cond.constantDouble RX1 98 (4596373779694328218), Cond.methodLink RX1 83 yX0_isEmpty, Cond.instanceMethod yX0_isEmpty, Cond.selects RX0 yX0_isEmpty yX0_isEmpty, Cond.initialized RX0, Cond.code yX0_isEmpty cX0_isEmpty 1 (some .boolean), Cond.fieldLink RX0 16 "VinegarLoft$Barrel" "litres" "D", Cond.methodLink RX1 86 yX0_spendYear, Cond.instanceMethod yX0_spendYear, Cond.selects RX0 yX0_spendYear yX0_spendYear, Cond.code yX0_spendYear cX0_spendYear 9 (some .double)]
def wsX1_ageAll_r2 : List Cond := [Cond.fieldLink RX0 7 "VinegarLoft$Barrel" "wood" "I", Cond.fieldLink RX0 26 "VinegarLoft$Barrel" "sugar" "D", Cond.constantDouble RX0 48 (4634626229029306368), Cond.fieldLink RX0 20 "VinegarLoft$Barrel" "age" "D", Cond.methodLink RX0 36 yX0_share, Cond.static yX0_share, Cond.code yX0_share cX0_share 1 (some .double), Cond.constantDouble RX0 71 (4581421828931458171), Cond.constantDouble RX0 73 (4584304132692975288), Cond.constantDouble RX0 75 (4585204852618449388), Cond.constantDouble RX0 77 (4582862980812216730), Cond.methodLink RX0 40 yX0_takeOut, Cond.instanceMethod yX0_takeOut, Cond.selects RX0 yX0_takeOut yX0_takeOut, Cond.code yX0_takeOut cX0_takeOut 3 none, Cond.methodLink RX0 33 yX0_clear, Cond.instanceMethod yX0_clear, Cond.selects RX0 yX0_clear yX0_clear, Cond.code yX0_clear cX0_clear 1 none, Cond.fieldLink RX0 23 "VinegarLoft$Barrel" "acid" "D", Cond.methodLink RX0 44 yX0_isEmpty, Cond.methodLink RX0 50 yX0_sour, Cond.instanceMethod yX0_sour, Cond.selects RX0 yX0_sour yX0_sour]
def wsX1_ageAll_r3 : List Cond := [Cond.code yX0_sour cX0_sour 3 none, Cond.constantDouble RX0 53 (4626322717216342016), Cond.constantDouble RX0 55 (4620693217682128896), Cond.constantDouble RX0 57 (4603579539098121011), Cond.constantDouble RX0 59 (4605380978949069210), Cond.constantDouble RX0 61 (4591870180066957722), Cond.constantDouble RX0 63 (4622945017495814144), Cond.methodLink RX1 90 yX1_eldest, Cond.instanceMethod yX1_eldest, Cond.selects RX1 yX1_eldest yX1_eldest, Cond.code yX1_eldest cX1_eldest 5 (some .int), Cond.fieldLink RX1 66 "VinegarLoft$Barrel" "age" "D"]
def wsX1_ageAll : List Cond := .code yX1_ageAll cX1_ageAll 6 (some .double) :: ((wsX1_ageAll_r1 ++ (wsX1_ageAll_r2 ++ wsX1_ageAll_r3)) ++ wsX10 ++ wsX00)
def wsX1_greatestAge : List Cond := .code yX1_greatestAge cX1_greatestAge 2 (some .double) :: ([.fieldLink RX1 11 "VinegarLoft$Row" "line" "[LVinegarLoft$Barrel;", .fieldLink RX1 66 "VinegarLoft$Barrel" "age" "D", .methodLink RX1 90 yX1_eldest, .instanceMethod yX1_eldest, .selects RX1 yX1_eldest yX1_eldest, .initialized RX1, .code yX1_eldest cX1_eldest 5 (some .int), .fieldLink RX1 18 "VinegarLoft$Row" "count" "I", .methodLink RX1 83 yX0_isEmpty, .instanceMethod yX0_isEmpty, .selects RX0 yX0_isEmpty yX0_isEmpty, .initialized RX0, .code yX0_isEmpty cX0_isEmpty 1 (some .boolean), .fieldLink RX0 16 "VinegarLoft$Barrel" "litres" "D"] ++ wsX10 ++ wsX00)
def wsX1_bottlesReady : List Cond := .code yX1_bottlesReady cX1_bottlesReady 5 (some .int) :: ([.fieldLink RX1 25 "VinegarLoft$Row" "drawnFrom" "I", .fieldLink RX1 11 "VinegarLoft$Row" "line" "[LVinegarLoft$Barrel;", .fieldLink RX1 66 "VinegarLoft$Barrel" "age" "D", .constantDouble RX1 100 (4622945017495814144), .fieldLink RX1 72 "VinegarLoft$Barrel" "sugar" "D", .constantDouble RX1 102 (4627730092099895296), .fieldLink RX1 28 "VinegarLoft$Row" "mayBeDrawn" "D", .fieldLink RX1 49 "VinegarLoft$Barrel" "litres" "D", .constantDouble RX1 104 (4591870180066957722), .methodLink RX1 90 yX1_eldest, .instanceMethod yX1_eldest, .selects RX1 yX1_eldest yX1_eldest, .initialized RX1, .code yX1_eldest cX1_eldest 5 (some .int), .fieldLink RX1 18 "VinegarLoft$Row" "count" "I", .methodLink RX1 83 yX0_isEmpty, .instanceMethod yX0_isEmpty, .selects RX0 yX0_isEmpty yX0_isEmpty, .initialized RX0, .code yX0_isEmpty cX0_isEmpty 1 (some .boolean), .fieldLink RX0 16 "VinegarLoft$Barrel" "litres" "D"] ++ wsX10 ++ wsX00)
def wsX1_takeBottles : List Cond := .code yX1_takeBottles cX1_takeBottles 4 none :: ([.fieldLink RX1 25 "VinegarLoft$Row" "drawnFrom" "I", .constantDouble RX1 104 (4591870180066957722), .fieldLink RX1 28 "VinegarLoft$Row" "mayBeDrawn" "D", .fieldLink RX1 11 "VinegarLoft$Row" "line" "[LVinegarLoft$Barrel;", .methodLink RX1 75 yX0_takeOut, .instanceMethod yX0_takeOut, .selects RX0 yX0_takeOut yX0_takeOut, .initialized RX0, .code yX0_takeOut cX0_takeOut 3 none, .fieldLink RX0 16 "VinegarLoft$Barrel" "litres" "D", .methodLink RX0 33 yX0_clear, .instanceMethod yX0_clear, .selects RX0 yX0_clear yX0_clear, .code yX0_clear cX0_clear 1 none, .fieldLink RX0 20 "VinegarLoft$Barrel" "age" "D", .fieldLink RX0 23 "VinegarLoft$Barrel" "acid" "D", .fieldLink RX0 26 "VinegarLoft$Barrel" "sugar" "D"] ++ wsX10 ++ wsX00)
def wsX1_allLitres : List Cond := .code yX1_allLitres cX1_allLitres 4 (some .double) :: ([.fieldLink RX1 18 "VinegarLoft$Row" "count" "I", .fieldLink RX1 11 "VinegarLoft$Row" "line" "[LVinegarLoft$Barrel;", .fieldLink RX1 49 "VinegarLoft$Barrel" "litres" "D"] ++ wsX10 ++ wsX00)
def wsX1_litresTimesAge : List Cond := .code yX1_litresTimesAge cX1_litresTimesAge 4 (some .double) :: ([.fieldLink RX1 18 "VinegarLoft$Row" "count" "I", .fieldLink RX1 11 "VinegarLoft$Row" "line" "[LVinegarLoft$Barrel;", .fieldLink RX1 49 "VinegarLoft$Barrel" "litres" "D", .fieldLink RX1 66 "VinegarLoft$Barrel" "age" "D"] ++ wsX10 ++ wsX00)
def wsX1_litresTimesSugar : List Cond := .code yX1_litresTimesSugar cX1_litresTimesSugar 4 (some .double) :: ([.fieldLink RX1 18 "VinegarLoft$Row" "count" "I", .fieldLink RX1 11 "VinegarLoft$Row" "line" "[LVinegarLoft$Barrel;", .fieldLink RX1 49 "VinegarLoft$Barrel" "litres" "D", .fieldLink RX1 72 "VinegarLoft$Barrel" "sugar" "D"] ++ wsX10 ++ wsX00)
def wsX2_init_r1 : List Cond := [Cond.methodLink RX2 1 objectInit, Cond.instanceMethod objectInit, Cond.code objectInit ⟨#[0xb1]⟩ 1 none, Cond.classLink RX2 7 RX1, Cond.instantiable RX1 5, Cond.initialized RX1, Cond.fieldLink RX2 10 "VinegarLoft" "row" "LVinegarLoft$Row;", Cond.fieldLink RX2 16 "VinegarLoft" "trial" "LVinegarLoft$Row;", Cond.arrayClass .int, Cond.fieldLink RX2 19 "VinegarLoft" "drawnByKind" "[I", Cond.fieldLink RX2 23 "VinegarLoft" "yearsGone" "I", Cond.methodLink RX2 9 yX1_init, Cond.instanceMethod yX1_init, Cond.code yX1_init cX1_init 2 none, Cond.methodLink RX1 3 objectInit, Cond.classLink RX1 9 RX0, Cond.fieldLink RX1 11 "VinegarLoft$Row" "line" "[LVinegarLoft$Barrel;", Cond.instantiable RX0 6, Cond.initialized RX0, Cond.fieldLink RX1 18 "VinegarLoft$Row" "count" "I", Cond.fieldLink RX1 22 "VinegarLoft$Row" "warmth" "I", Cond.fieldLink RX1 25 "VinegarLoft$Row" "drawnFrom" "I", Cond.fieldLink RX1 28 "VinegarLoft$Row" "mayBeDrawn" "D", Cond.instanceMethod yX0_init]
def wsX2_init_r2 : List Cond := [Cond.code yX0_init cX0_init 1 none, Cond.methodLink RX0 1 objectInit]
def wsX2_init : List Cond := .code yX2_init cX2_init 1 none :: ((wsX2_init_r1 ++ wsX2_init_r2) ++ wsX10 ++ wsX20 ++ wsX00)
def wsX2_add_r1 : List Cond := [Cond.classLink RX2 27 "java/lang/IllegalArgumentException", Cond.initialized "java/lang/IllegalArgumentException", Cond.classLink RX2 44 "java/lang/IllegalStateException", Cond.initialized "java/lang/IllegalStateException", Cond.fieldLink RX2 10 "VinegarLoft" "row" "LVinegarLoft$Row;", Cond.methodLink RX2 34 yX1_largestNext, Cond.instanceMethod yX1_largestNext, Cond.selects RX1 yX1_largestNext yX1_largestNext, Cond.initialized RX1, Cond.code yX1_largestNext cX1_largestNext 1 (some .int), Cond.fieldLink RX1 18 "VinegarLoft$Row" "count" "I", Cond.fieldLink RX1 11 "VinegarLoft$Row" "line" "[LVinegarLoft$Barrel;", Cond.fieldLink RX1 36 "VinegarLoft$Barrel" "size" "I", Cond.methodLink RX2 40 yX1_isComplete, Cond.instanceMethod yX1_isComplete, Cond.selects RX1 yX1_isComplete yX1_isComplete, Cond.code yX1_isComplete cX1_isComplete 1 (some .boolean), Cond.methodLink RX2 49 yX1_putBehind, Cond.instanceMethod yX1_putBehind, Cond.selects RX1 yX1_putBehind yX1_putBehind, Cond.code yX1_putBehind cX1_putBehind 4 (some .int), Cond.fieldLink RX1 43 "VinegarLoft$Barrel" "wood" "I", Cond.methodLink RX1 39 yX1_isComplete, Cond.methodLink RX1 46 yX0_clear]
def wsX2_add_r2 : List Cond := [Cond.instanceMethod yX0_clear, Cond.selects RX0 yX0_clear yX0_clear, Cond.initialized RX0, Cond.code yX0_clear cX0_clear 1 none, Cond.fieldLink RX0 16 "VinegarLoft$Barrel" "litres" "D", Cond.fieldLink RX0 20 "VinegarLoft$Barrel" "age" "D", Cond.fieldLink RX0 23 "VinegarLoft$Barrel" "acid" "D", Cond.fieldLink RX0 26 "VinegarLoft$Barrel" "sugar" "D"]
def wsX2_add : List Cond := .code yX2_add cX2_add 3 (some .int) :: ((wsX2_add_r1 ++ wsX2_add_r2) ++ wsX20 ++ wsX10 ++ wsX00 ++ (vx_atS RX2 31 "java/lang/IllegalArgumentException" ["java/lang/RuntimeException", "java/lang/Exception"]).filter goodWord ++ (vx_atS RX2 48 "java/lang/IllegalStateException" ["java/lang/RuntimeException", "java/lang/Exception"]).filter goodWord)
def wsX2_fill_r1 : List Cond := [Cond.classLink RX2 27 "java/lang/IllegalArgumentException", Cond.initialized "java/lang/IllegalArgumentException", Cond.fieldLink RX2 10 "VinegarLoft" "row" "LVinegarLoft$Row;", Cond.methodLink RX2 55 yX1_pourMust, Cond.instanceMethod yX1_pourMust, Cond.selects RX1 yX1_pourMust yX1_pourMust, Cond.initialized RX1, Cond.code yX1_pourMust cX1_pourMust 7 (some .double), Cond.fieldLink RX1 18 "VinegarLoft$Row" "count" "I", Cond.fieldLink RX1 11 "VinegarLoft$Row" "line" "[LVinegarLoft$Barrel;", Cond.fieldLink RX1 36 "VinegarLoft$Barrel" "size" "I", Cond.fieldLink RX1 49 "VinegarLoft$Barrel" "litres" "D", Cond.constantDouble RX1 52 (4629137466983448576), Cond.methodLink RX1 54 yX0_mixIn, Cond.instanceMethod yX0_mixIn, Cond.selects RX0 yX0_mixIn yX0_mixIn, Cond.initialized RX0, Cond.code yX0_mixIn cX0_mixIn 9 none, Cond.fieldLink RX0 16 "VinegarLoft$Barrel" "litres" "D", Cond.fieldLink RX0 20 "VinegarLoft$Barrel" "age" "D", Cond.fieldLink RX0 23 "VinegarLoft$Barrel" "acid" "D", Cond.fieldLink RX0 26 "VinegarLoft$Barrel" "sugar" "D", Cond.methodLink RX0 29 yX0_mixed, Cond.static yX0_mixed]
def wsX2_fill_r2 : List Cond := [Cond.code yX0_mixed cX0_mixed 10 (some .double)]
def wsX2_fill : List Cond := .code yX2_fill cX2_fill 2 (some .double) :: ((wsX2_fill_r1 ++ wsX2_fill_r2) ++ wsX20 ++ wsX10 ++ wsX00 ++ (vx_atS RX2 31 "java/lang/IllegalArgumentException" ["java/lang/RuntimeException", "java/lang/Exception"]).filter goodWord)
def wsX2_topUp_r1 : List Cond := [Cond.fieldLink RX2 10 "VinegarLoft" "row" "LVinegarLoft$Row;", Cond.methodLink RX2 59 yX1_passDown, Cond.instanceMethod yX1_passDown, Cond.selects RX1 yX1_passDown yX1_passDown, Cond.initialized RX1, Cond.code yX1_passDown cX1_passDown 4 (some .double), Cond.fieldLink RX1 18 "VinegarLoft$Row" "count" "I", Cond.fieldLink RX1 11 "VinegarLoft$Row" "line" "[LVinegarLoft$Barrel;", Cond.methodLink RX1 58 yX1_passBetween, Cond.static yX1_passBetween, Cond.code yX1_passBetween cX1_passBetween 8 (some .double), Cond.constantDouble RX1 62 (4606281698874543309), Cond.fieldLink RX1 36 "VinegarLoft$Barrel" "size" "I", Cond.fieldLink RX1 49 "VinegarLoft$Barrel" "litres" "D", Cond.constantDouble RX1 64 (4602678819172646912), Cond.fieldLink RX1 66 "VinegarLoft$Barrel" "age" "D", Cond.fieldLink RX1 69 "VinegarLoft$Barrel" "acid" "D", Cond.fieldLink RX1 72 "VinegarLoft$Barrel" "sugar" "D", Cond.methodLink RX1 54 yX0_mixIn, Cond.instanceMethod yX0_mixIn, Cond.selects RX0 yX0_mixIn yX0_mixIn, Cond.initialized RX0, Cond.code yX0_mixIn cX0_mixIn 9 none, Cond.fieldLink RX0 16 "VinegarLoft$Barrel" "litres" "D"]
def wsX2_topUp_r2 : List Cond := [Cond.fieldLink RX0 20 "VinegarLoft$Barrel" "age" "D", Cond.fieldLink RX0 23 "VinegarLoft$Barrel" "acid" "D", Cond.fieldLink RX0 26 "VinegarLoft$Barrel" "sugar" "D", Cond.methodLink RX0 29 yX0_mixed, Cond.static yX0_mixed, Cond.code yX0_mixed cX0_mixed 10 (some .double), Cond.methodLink RX1 75 yX0_takeOut, Cond.instanceMethod yX0_takeOut, Cond.selects RX0 yX0_takeOut yX0_takeOut, Cond.code yX0_takeOut cX0_takeOut 3 none, Cond.methodLink RX0 33 yX0_clear, Cond.instanceMethod yX0_clear, Cond.selects RX0 yX0_clear yX0_clear, Cond.code yX0_clear cX0_clear 1 none]
def wsX2_topUp : List Cond := .code yX2_topUp cX2_topUp 1 (some .double) :: ((wsX2_topUp_r1 ++ wsX2_topUp_r2) ++ wsX20 ++ wsX10 ++ wsX00)
def wsX2_year_r1 : List Cond := [Cond.fieldLink RX2 23 "VinegarLoft" "yearsGone" "I", Cond.fieldLink RX2 10 "VinegarLoft" "row" "LVinegarLoft$Row;", Cond.methodLink RX2 63 yX1_ageAll, Cond.instanceMethod yX1_ageAll, Cond.selects RX1 yX1_ageAll yX1_ageAll, Cond.initialized RX1, Cond.code yX1_ageAll cX1_ageAll 6 (some .double), Cond.fieldLink RX1 18 "VinegarLoft$Row" "count" "I", Cond.fieldLink RX1 11 "VinegarLoft$Row" "line" "[LVinegarLoft$Barrel;", Cond.fieldLink RX1 25 "VinegarLoft$Row" "drawnFrom" "I", Cond.constantDouble RX1 94 (4598175219545276416), Cond.fieldLink RX1 49 "VinegarLoft$Barrel" "litres" "D", Cond.fieldLink RX1 28 "VinegarLoft$Row" "mayBeDrawn" "D", Cond.methodLink RX1 79 yX1_draughtNow, Cond.instanceMethod yX1_draughtNow, Cond.selects RX1 yX1_draughtNow yX1_draughtNow, Cond.code yX1_draughtNow cX1_draughtNow 3 (some .double), Cond.constantDouble RX1 96 (4587366580439587226), Cond.fieldLink RX1 22 "VinegarLoft$Row" "warmth" "I", Cond.constantDouble RX1 98 (4596373779694328218), Cond.methodLink RX1 83 yX0_isEmpty, Cond.instanceMethod yX0_isEmpty, Cond.selects RX0 yX0_isEmpty yX0_isEmpty, Cond.initialized RX0]
def wsX2_year_r2 : List Cond := [Cond.code yX0_isEmpty cX0_isEmpty 1 (some .boolean), Cond.fieldLink RX0 16 "VinegarLoft$Barrel" "litres" "D", Cond.methodLink RX1 86 yX0_spendYear, Cond.instanceMethod yX0_spendYear, Cond.selects RX0 yX0_spendYear yX0_spendYear, Cond.code yX0_spendYear cX0_spendYear 9 (some .double), Cond.fieldLink RX0 7 "VinegarLoft$Barrel" "wood" "I", Cond.fieldLink RX0 26 "VinegarLoft$Barrel" "sugar" "D", Cond.constantDouble RX0 48 (4634626229029306368), Cond.fieldLink RX0 20 "VinegarLoft$Barrel" "age" "D", Cond.methodLink RX0 36 yX0_share, Cond.static yX0_share, Cond.code yX0_share cX0_share 1 (some .double), Cond.constantDouble RX0 71 (4581421828931458171), Cond.constantDouble RX0 73 (4584304132692975288), Cond.constantDouble RX0 75 (4585204852618449388), Cond.constantDouble RX0 77 (4582862980812216730), Cond.methodLink RX0 40 yX0_takeOut, Cond.instanceMethod yX0_takeOut, Cond.selects RX0 yX0_takeOut yX0_takeOut, Cond.code yX0_takeOut cX0_takeOut 3 none, Cond.methodLink RX0 33 yX0_clear, Cond.instanceMethod yX0_clear, Cond.selects RX0 yX0_clear yX0_clear]
def wsX2_year_r3 : List Cond := [Cond.code yX0_clear cX0_clear 1 none, Cond.fieldLink RX0 23 "VinegarLoft$Barrel" "acid" "D", Cond.methodLink RX0 44 yX0_isEmpty, Cond.methodLink RX0 50 yX0_sour, Cond.instanceMethod yX0_sour, Cond.selects RX0 yX0_sour yX0_sour, Cond.code yX0_sour cX0_sour 3 none, Cond.constantDouble RX0 53 (4626322717216342016), Cond.constantDouble RX0 55 (4620693217682128896), Cond.constantDouble RX0 57 (4603579539098121011), Cond.constantDouble RX0 59 (4605380978949069210), Cond.constantDouble RX0 61 (4591870180066957722), Cond.constantDouble RX0 63 (4622945017495814144), Cond.methodLink RX1 90 yX1_eldest, Cond.instanceMethod yX1_eldest, Cond.selects RX1 yX1_eldest yX1_eldest, Cond.code yX1_eldest cX1_eldest 5 (some .int), Cond.fieldLink RX1 66 "VinegarLoft$Barrel" "age" "D"]
def wsX2_year : List Cond := .code yX2_year cX2_year 1 (some .double) :: ((wsX2_year_r1 ++ (wsX2_year_r2 ++ wsX2_year_r3)) ++ wsX20 ++ wsX10 ++ wsX00)
def wsX2_kindAt : List Cond := .code yX2_kindAt cX2_kindAt 2 (some .int) :: ([.constantDouble RX2 142 (4625759767262920704), .constantDouble RX2 144 (4627730092099895296)])
def wsX2_draw_r1 : List Cond := [Cond.classLink RX2 27 "java/lang/IllegalArgumentException", Cond.initialized "java/lang/IllegalArgumentException", Cond.fieldLink RX2 10 "VinegarLoft" "row" "LVinegarLoft$Row;", Cond.fieldLink RX2 19 "VinegarLoft" "drawnByKind" "[I", Cond.methodLink RX2 68 yX1_bottlesReady, Cond.instanceMethod yX1_bottlesReady, Cond.selects RX1 yX1_bottlesReady yX1_bottlesReady, Cond.initialized RX1, Cond.code yX1_bottlesReady cX1_bottlesReady 5 (some .int), Cond.fieldLink RX1 25 "VinegarLoft$Row" "drawnFrom" "I", Cond.fieldLink RX1 11 "VinegarLoft$Row" "line" "[LVinegarLoft$Barrel;", Cond.fieldLink RX1 66 "VinegarLoft$Barrel" "age" "D", Cond.constantDouble RX1 100 (4622945017495814144), Cond.fieldLink RX1 72 "VinegarLoft$Barrel" "sugar" "D", Cond.constantDouble RX1 102 (4627730092099895296), Cond.fieldLink RX1 28 "VinegarLoft$Row" "mayBeDrawn" "D", Cond.fieldLink RX1 49 "VinegarLoft$Barrel" "litres" "D", Cond.constantDouble RX1 104 (4591870180066957722), Cond.methodLink RX1 90 yX1_eldest, Cond.instanceMethod yX1_eldest, Cond.selects RX1 yX1_eldest yX1_eldest, Cond.code yX1_eldest cX1_eldest 5 (some .int), Cond.fieldLink RX1 18 "VinegarLoft$Row" "count" "I", Cond.methodLink RX1 83 yX0_isEmpty]
def wsX2_draw_r2 : List Cond := [Cond.instanceMethod yX0_isEmpty, Cond.selects RX0 yX0_isEmpty yX0_isEmpty, Cond.initialized RX0, Cond.code yX0_isEmpty cX0_isEmpty 1 (some .boolean), Cond.fieldLink RX0 16 "VinegarLoft$Barrel" "litres" "D", Cond.methodLink RX2 71 yX1_greatestAge, Cond.instanceMethod yX1_greatestAge, Cond.selects RX1 yX1_greatestAge yX1_greatestAge, Cond.code yX1_greatestAge cX1_greatestAge 2 (some .double), Cond.methodLink RX2 74 yX2_kindAt, Cond.static yX2_kindAt, Cond.initialized RX2, Cond.code yX2_kindAt cX2_kindAt 2 (some .int), Cond.constantDouble RX2 142 (4625759767262920704), Cond.constantDouble RX2 144 (4627730092099895296), Cond.methodLink RX2 78 yX1_takeBottles, Cond.instanceMethod yX1_takeBottles, Cond.selects RX1 yX1_takeBottles yX1_takeBottles, Cond.code yX1_takeBottles cX1_takeBottles 4 none, Cond.methodLink RX1 75 yX0_takeOut, Cond.instanceMethod yX0_takeOut, Cond.selects RX0 yX0_takeOut yX0_takeOut, Cond.code yX0_takeOut cX0_takeOut 3 none, Cond.methodLink RX0 33 yX0_clear]
def wsX2_draw_r3 : List Cond := [Cond.instanceMethod yX0_clear, Cond.selects RX0 yX0_clear yX0_clear, Cond.code yX0_clear cX0_clear 1 none, Cond.fieldLink RX0 20 "VinegarLoft$Barrel" "age" "D", Cond.fieldLink RX0 23 "VinegarLoft$Barrel" "acid" "D", Cond.fieldLink RX0 26 "VinegarLoft$Barrel" "sugar" "D"]
def wsX2_draw : List Cond := .code yX2_draw cX2_draw 4 (some .int) :: ((wsX2_draw_r1 ++ (wsX2_draw_r2 ++ wsX2_draw_r3)) ++ wsX20 ++ wsX10 ++ wsX00 ++ (vx_atS RX2 31 "java/lang/IllegalArgumentException" ["java/lang/RuntimeException", "java/lang/Exception"]).filter goodWord)
def wsX2_barrelNumbered : List Cond := .code yX2_barrelNumbered cX2_barrelNumbered 2 (some (.object "VinegarLoft$Barrel")) :: ([.classLink RX2 133 "java/lang/IndexOutOfBoundsException", .initialized "java/lang/IndexOutOfBoundsException", .fieldLink RX2 10 "VinegarLoft" "row" "LVinegarLoft$Row;", .fieldLink RX2 100 "VinegarLoft$Row" "count" "I", .fieldLink RX2 138 "VinegarLoft$Row" "line" "[LVinegarLoft$Barrel;"] ++ wsX20 ++ wsX10 ++ (vx_atS RX2 137 "java/lang/IndexOutOfBoundsException" ["java/lang/RuntimeException", "java/lang/Exception"]).filter goodWord)
def wsX2_pourAway : List Cond := .code yX2_pourAway cX2_pourAway 5 (some .double) :: ([.fieldLink RX2 86 "VinegarLoft$Barrel" "litres" "D", .methodLink RX2 82 yX2_barrelNumbered, .instanceMethod yX2_barrelNumbered, .selects RX2 yX2_barrelNumbered yX2_barrelNumbered, .initialized RX2, .code yX2_barrelNumbered cX2_barrelNumbered 2 (some (.object "VinegarLoft$Barrel")), .classLink RX2 133 "java/lang/IndexOutOfBoundsException", .initialized "java/lang/IndexOutOfBoundsException", .fieldLink RX2 10 "VinegarLoft" "row" "LVinegarLoft$Row;", .fieldLink RX2 100 "VinegarLoft$Row" "count" "I", .fieldLink RX2 138 "VinegarLoft$Row" "line" "[LVinegarLoft$Barrel;", .methodLink RX2 92 yX0_clear, .instanceMethod yX0_clear, .selects RX0 yX0_clear yX0_clear, .initialized RX0, .code yX0_clear cX0_clear 1 none, .fieldLink RX0 16 "VinegarLoft$Barrel" "litres" "D", .fieldLink RX0 20 "VinegarLoft$Barrel" "age" "D", .fieldLink RX0 23 "VinegarLoft$Barrel" "acid" "D", .fieldLink RX0 26 "VinegarLoft$Barrel" "sugar" "D"] ++ wsX00 ++ wsX20 ++ wsX10 ++ (vx_atS RX2 137 "java/lang/IndexOutOfBoundsException" ["java/lang/RuntimeException", "java/lang/Exception"]).filter goodWord)
def wsX2_setWarmth : List Cond := .code yX2_setWarmth cX2_setWarmth 2 none :: ([.classLink RX2 27 "java/lang/IllegalArgumentException", .initialized "java/lang/IllegalArgumentException", .fieldLink RX2 10 "VinegarLoft" "row" "LVinegarLoft$Row;", .fieldLink RX2 97 "VinegarLoft$Row" "warmth" "I"] ++ wsX20 ++ wsX10 ++ (vx_atS RX2 31 "java/lang/IllegalArgumentException" ["java/lang/RuntimeException", "java/lang/Exception"]).filter goodWord)
def wsX2_barrels : List Cond := .code yX2_barrels cX2_barrels 1 (some .int) :: ([.fieldLink RX2 10 "VinegarLoft" "row" "LVinegarLoft$Row;", .fieldLink RX2 100 "VinegarLoft$Row" "count" "I"] ++ wsX20 ++ wsX10)
def wsX2_litresIn : List Cond := .code yX2_litresIn cX2_litresIn 2 (some .double) :: ([.fieldLink RX2 86 "VinegarLoft$Barrel" "litres" "D", .methodLink RX2 82 yX2_barrelNumbered, .instanceMethod yX2_barrelNumbered, .selects RX2 yX2_barrelNumbered yX2_barrelNumbered, .initialized RX2, .code yX2_barrelNumbered cX2_barrelNumbered 2 (some (.object "VinegarLoft$Barrel")), .classLink RX2 133 "java/lang/IndexOutOfBoundsException", .initialized "java/lang/IndexOutOfBoundsException", .fieldLink RX2 10 "VinegarLoft" "row" "LVinegarLoft$Row;", .fieldLink RX2 100 "VinegarLoft$Row" "count" "I", .fieldLink RX2 138 "VinegarLoft$Row" "line" "[LVinegarLoft$Barrel;"] ++ wsX00 ++ wsX20 ++ wsX10 ++ (vx_atS RX2 137 "java/lang/IndexOutOfBoundsException" ["java/lang/RuntimeException", "java/lang/Exception"]).filter goodWord)
def wsX2_ageOf : List Cond := .code yX2_ageOf cX2_ageOf 2 (some .double) :: ([.fieldLink RX2 103 "VinegarLoft$Barrel" "age" "D", .methodLink RX2 82 yX2_barrelNumbered, .instanceMethod yX2_barrelNumbered, .selects RX2 yX2_barrelNumbered yX2_barrelNumbered, .initialized RX2, .code yX2_barrelNumbered cX2_barrelNumbered 2 (some (.object "VinegarLoft$Barrel")), .classLink RX2 133 "java/lang/IndexOutOfBoundsException", .initialized "java/lang/IndexOutOfBoundsException", .fieldLink RX2 10 "VinegarLoft" "row" "LVinegarLoft$Row;", .fieldLink RX2 100 "VinegarLoft$Row" "count" "I", .fieldLink RX2 138 "VinegarLoft$Row" "line" "[LVinegarLoft$Barrel;"] ++ wsX00 ++ wsX20 ++ wsX10 ++ (vx_atS RX2 137 "java/lang/IndexOutOfBoundsException" ["java/lang/RuntimeException", "java/lang/Exception"]).filter goodWord)
def wsX2_acidOf : List Cond := .code yX2_acidOf cX2_acidOf 2 (some .double) :: ([.fieldLink RX2 106 "VinegarLoft$Barrel" "acid" "D", .methodLink RX2 82 yX2_barrelNumbered, .instanceMethod yX2_barrelNumbered, .selects RX2 yX2_barrelNumbered yX2_barrelNumbered, .initialized RX2, .code yX2_barrelNumbered cX2_barrelNumbered 2 (some (.object "VinegarLoft$Barrel")), .classLink RX2 133 "java/lang/IndexOutOfBoundsException", .initialized "java/lang/IndexOutOfBoundsException", .fieldLink RX2 10 "VinegarLoft" "row" "LVinegarLoft$Row;", .fieldLink RX2 100 "VinegarLoft$Row" "count" "I", .fieldLink RX2 138 "VinegarLoft$Row" "line" "[LVinegarLoft$Barrel;"] ++ wsX00 ++ wsX20 ++ wsX10 ++ (vx_atS RX2 137 "java/lang/IndexOutOfBoundsException" ["java/lang/RuntimeException", "java/lang/Exception"]).filter goodWord)
def wsX2_sugarOf : List Cond := .code yX2_sugarOf cX2_sugarOf 2 (some .double) :: ([.fieldLink RX2 109 "VinegarLoft$Barrel" "sugar" "D", .methodLink RX2 82 yX2_barrelNumbered, .instanceMethod yX2_barrelNumbered, .selects RX2 yX2_barrelNumbered yX2_barrelNumbered, .initialized RX2, .code yX2_barrelNumbered cX2_barrelNumbered 2 (some (.object "VinegarLoft$Barrel")), .classLink RX2 133 "java/lang/IndexOutOfBoundsException", .initialized "java/lang/IndexOutOfBoundsException", .fieldLink RX2 10 "VinegarLoft" "row" "LVinegarLoft$Row;", .fieldLink RX2 100 "VinegarLoft$Row" "count" "I", .fieldLink RX2 138 "VinegarLoft$Row" "line" "[LVinegarLoft$Barrel;"] ++ wsX00 ++ wsX20 ++ wsX10 ++ (vx_atS RX2 137 "java/lang/IndexOutOfBoundsException" ["java/lang/RuntimeException", "java/lang/Exception"]).filter goodWord)
def wsX2_tasteOf_r1 : List Cond := [Cond.methodLink RX2 82 yX2_barrelNumbered, Cond.instanceMethod yX2_barrelNumbered, Cond.selects RX2 yX2_barrelNumbered yX2_barrelNumbered, Cond.initialized RX2, Cond.code yX2_barrelNumbered cX2_barrelNumbered 2 (some (.object "VinegarLoft$Barrel")), Cond.classLink RX2 133 "java/lang/IndexOutOfBoundsException", Cond.initialized "java/lang/IndexOutOfBoundsException", Cond.fieldLink RX2 10 "VinegarLoft" "row" "LVinegarLoft$Row;", Cond.fieldLink RX2 100 "VinegarLoft$Row" "count" "I", Cond.fieldLink RX2 138 "VinegarLoft$Row" "line" "[LVinegarLoft$Barrel;", Cond.methodLink RX2 112 yX0_taste, Cond.instanceMethod yX0_taste, Cond.selects RX0 yX0_taste yX0_taste, Cond.initialized RX0, Cond.code yX0_taste cX0_taste 5 (some .double), Cond.fieldLink RX0 23 "VinegarLoft$Barrel" "acid" "D", Cond.constantDouble RX0 65 (4618441417868443648), Cond.constantDouble RX0 67 (4602678819172646912), Cond.fieldLink RX0 20 "VinegarLoft$Barrel" "age" "D", Cond.constantDouble RX0 59 (4605380978949069210), Cond.fieldLink RX0 26 "VinegarLoft$Barrel" "sugar" "D", Cond.constantDouble RX0 69 (4613937818241073152), Cond.methodLink RX0 44 yX0_isEmpty, Cond.instanceMethod yX0_isEmpty]
def wsX2_tasteOf_r2 : List Cond := [Cond.selects RX0 yX0_isEmpty yX0_isEmpty, Cond.code yX0_isEmpty cX0_isEmpty 1 (some .boolean), Cond.fieldLink RX0 16 "VinegarLoft$Barrel" "litres" "D"]
def wsX2_tasteOf : List Cond := .code yX2_tasteOf cX2_tasteOf 2 (some .double) :: ((wsX2_tasteOf_r1 ++ wsX2_tasteOf_r2) ++ wsX20 ++ wsX10 ++ wsX00 ++ (vx_atS RX2 137 "java/lang/IndexOutOfBoundsException" ["java/lang/RuntimeException", "java/lang/Exception"]).filter goodWord)
def wsX2_oldest : List Cond := .code yX2_oldest cX2_oldest 1 (some .int) :: ([.fieldLink RX2 10 "VinegarLoft" "row" "LVinegarLoft$Row;", .methodLink RX2 115 yX1_eldest, .instanceMethod yX1_eldest, .selects RX1 yX1_eldest yX1_eldest, .initialized RX1, .code yX1_eldest cX1_eldest 5 (some .int), .fieldLink RX1 18 "VinegarLoft$Row" "count" "I", .fieldLink RX1 11 "VinegarLoft$Row" "line" "[LVinegarLoft$Barrel;", .fieldLink RX1 66 "VinegarLoft$Barrel" "age" "D", .methodLink RX1 83 yX0_isEmpty, .instanceMethod yX0_isEmpty, .selects RX0 yX0_isEmpty yX0_isEmpty, .initialized RX0, .code yX0_isEmpty cX0_isEmpty 1 (some .boolean), .fieldLink RX0 16 "VinegarLoft$Barrel" "litres" "D"] ++ wsX20 ++ wsX10 ++ wsX00)
def wsX2_drawable_r1 : List Cond := [Cond.fieldLink RX2 10 "VinegarLoft" "row" "LVinegarLoft$Row;", Cond.methodLink RX2 68 yX1_bottlesReady, Cond.instanceMethod yX1_bottlesReady, Cond.selects RX1 yX1_bottlesReady yX1_bottlesReady, Cond.initialized RX1, Cond.code yX1_bottlesReady cX1_bottlesReady 5 (some .int), Cond.fieldLink RX1 25 "VinegarLoft$Row" "drawnFrom" "I", Cond.fieldLink RX1 11 "VinegarLoft$Row" "line" "[LVinegarLoft$Barrel;", Cond.fieldLink RX1 66 "VinegarLoft$Barrel" "age" "D", Cond.constantDouble RX1 100 (4622945017495814144), Cond.fieldLink RX1 72 "VinegarLoft$Barrel" "sugar" "D", Cond.constantDouble RX1 102 (4627730092099895296), Cond.fieldLink RX1 28 "VinegarLoft$Row" "mayBeDrawn" "D", Cond.fieldLink RX1 49 "VinegarLoft$Barrel" "litres" "D", Cond.constantDouble RX1 104 (4591870180066957722), Cond.methodLink RX1 90 yX1_eldest, Cond.instanceMethod yX1_eldest, Cond.selects RX1 yX1_eldest yX1_eldest, Cond.code yX1_eldest cX1_eldest 5 (some .int), Cond.fieldLink RX1 18 "VinegarLoft$Row" "count" "I", Cond.methodLink RX1 83 yX0_isEmpty, Cond.instanceMethod yX0_isEmpty, Cond.selects RX0 yX0_isEmpty yX0_isEmpty, Cond.initialized RX0]
def wsX2_drawable_r2 : List Cond := [Cond.code yX0_isEmpty cX0_isEmpty 1 (some .boolean), Cond.fieldLink RX0 16 "VinegarLoft$Barrel" "litres" "D"]
def wsX2_drawable : List Cond := .code yX2_drawable cX2_drawable 1 (some .int) :: ((wsX2_drawable_r1 ++ wsX2_drawable_r2) ++ wsX20 ++ wsX10 ++ wsX00)
def wsX2_bottles : List Cond := .code yX2_bottles cX2_bottles 2 (some .int) :: ([.classLink RX2 27 "java/lang/IllegalArgumentException", .initialized "java/lang/IllegalArgumentException", .fieldLink RX2 19 "VinegarLoft" "drawnByKind" "[I"] ++ wsX20 ++ (vx_atS RX2 31 "java/lang/IllegalArgumentException" ["java/lang/RuntimeException", "java/lang/Exception"]).filter goodWord)
def wsX2_years : List Cond := .code yX2_years cX2_years 1 (some .int) :: ([.fieldLink RX2 23 "VinegarLoft" "yearsGone" "I"] ++ wsX20)
def wsX2_meanAge : List Cond := .code yX2_meanAge cX2_meanAge 3 (some .double) :: ([.fieldLink RX2 10 "VinegarLoft" "row" "LVinegarLoft$Row;", .methodLink RX2 120 yX1_allLitres, .instanceMethod yX1_allLitres, .selects RX1 yX1_allLitres yX1_allLitres, .initialized RX1, .code yX1_allLitres cX1_allLitres 4 (some .double), .fieldLink RX1 18 "VinegarLoft$Row" "count" "I", .fieldLink RX1 11 "VinegarLoft$Row" "line" "[LVinegarLoft$Barrel;", .fieldLink RX1 49 "VinegarLoft$Barrel" "litres" "D", .methodLink RX2 123 yX1_litresTimesAge, .instanceMethod yX1_litresTimesAge, .selects RX1 yX1_litresTimesAge yX1_litresTimesAge, .code yX1_litresTimesAge cX1_litresTimesAge 4 (some .double), .fieldLink RX1 66 "VinegarLoft$Barrel" "age" "D"] ++ wsX20 ++ wsX10 ++ wsX00)
def wsX2_meanSugar : List Cond := .code yX2_meanSugar cX2_meanSugar 3 (some .double) :: ([.fieldLink RX2 10 "VinegarLoft" "row" "LVinegarLoft$Row;", .methodLink RX2 120 yX1_allLitres, .instanceMethod yX1_allLitres, .selects RX1 yX1_allLitres yX1_allLitres, .initialized RX1, .code yX1_allLitres cX1_allLitres 4 (some .double), .fieldLink RX1 18 "VinegarLoft$Row" "count" "I", .fieldLink RX1 11 "VinegarLoft$Row" "line" "[LVinegarLoft$Barrel;", .fieldLink RX1 49 "VinegarLoft$Barrel" "litres" "D", .methodLink RX2 126 yX1_litresTimesSugar, .instanceMethod yX1_litresTimesSugar, .selects RX1 yX1_litresTimesSugar yX1_litresTimesSugar, .code yX1_litresTimesSugar cX1_litresTimesSugar 4 (some .double), .fieldLink RX1 72 "VinegarLoft$Barrel" "sugar" "D"] ++ wsX20 ++ wsX10 ++ wsX00)
def wsX2_firstBottleIn_r1 : List Cond := [Cond.fieldLink RX2 10 "VinegarLoft" "row" "LVinegarLoft$Row;", Cond.fieldLink RX2 16 "VinegarLoft" "trial" "LVinegarLoft$Row;", Cond.methodLink RX2 68 yX1_bottlesReady, Cond.instanceMethod yX1_bottlesReady, Cond.selects RX1 yX1_bottlesReady yX1_bottlesReady, Cond.initialized RX1, Cond.code yX1_bottlesReady cX1_bottlesReady 5 (some .int), Cond.fieldLink RX1 25 "VinegarLoft$Row" "drawnFrom" "I", Cond.fieldLink RX1 11 "VinegarLoft$Row" "line" "[LVinegarLoft$Barrel;", Cond.fieldLink RX1 66 "VinegarLoft$Barrel" "age" "D", Cond.constantDouble RX1 100 (4622945017495814144), Cond.fieldLink RX1 72 "VinegarLoft$Barrel" "sugar" "D", Cond.constantDouble RX1 102 (4627730092099895296), Cond.fieldLink RX1 28 "VinegarLoft$Row" "mayBeDrawn" "D", Cond.fieldLink RX1 49 "VinegarLoft$Barrel" "litres" "D", Cond.constantDouble RX1 104 (4591870180066957722), Cond.methodLink RX1 90 yX1_eldest, Cond.instanceMethod yX1_eldest, Cond.selects RX1 yX1_eldest yX1_eldest, Cond.code yX1_eldest cX1_eldest 5 (some .int), Cond.fieldLink RX1 18 "VinegarLoft$Row" "count" "I", Cond.methodLink RX1 83 yX0_isEmpty, Cond.instanceMethod yX0_isEmpty, Cond.selects RX0 yX0_isEmpty yX0_isEmpty]
def wsX2_firstBottleIn_r2 : List Cond := [Cond.initialized RX0, Cond.code yX0_isEmpty cX0_isEmpty 1 (some .boolean), Cond.fieldLink RX0 16 "VinegarLoft$Barrel" "litres" "D", Cond.methodLink RX2 129 yX1_copyFrom, Cond.instanceMethod yX1_copyFrom, Cond.selects RX1 yX1_copyFrom yX1_copyFrom, Cond.code yX1_copyFrom cX1_copyFrom 3 none, Cond.fieldLink RX1 22 "VinegarLoft$Row" "warmth" "I", Cond.methodLink RX1 32 yX0_copyFrom, Cond.instanceMethod yX0_copyFrom, Cond.selects RX0 yX0_copyFrom yX0_copyFrom, Cond.code yX0_copyFrom cX0_copyFrom 2 none, Cond.fieldLink RX0 7 "VinegarLoft$Barrel" "wood" "I", Cond.fieldLink RX0 13 "VinegarLoft$Barrel" "size" "I", Cond.fieldLink RX0 20 "VinegarLoft$Barrel" "age" "D", Cond.fieldLink RX0 23 "VinegarLoft$Barrel" "acid" "D", Cond.fieldLink RX0 26 "VinegarLoft$Barrel" "sugar" "D", Cond.methodLink RX2 55 yX1_pourMust, Cond.instanceMethod yX1_pourMust, Cond.selects RX1 yX1_pourMust yX1_pourMust, Cond.code yX1_pourMust cX1_pourMust 7 (some .double), Cond.fieldLink RX1 36 "VinegarLoft$Barrel" "size" "I", Cond.constantDouble RX1 52 (4629137466983448576), Cond.methodLink RX1 54 yX0_mixIn]
def wsX2_firstBottleIn_r3 : List Cond := [Cond.instanceMethod yX0_mixIn, Cond.selects RX0 yX0_mixIn yX0_mixIn, Cond.code yX0_mixIn cX0_mixIn 9 none, Cond.methodLink RX0 29 yX0_mixed, Cond.static yX0_mixed, Cond.code yX0_mixed cX0_mixed 10 (some .double), Cond.methodLink RX2 59 yX1_passDown, Cond.instanceMethod yX1_passDown, Cond.selects RX1 yX1_passDown yX1_passDown, Cond.code yX1_passDown cX1_passDown 4 (some .double), Cond.methodLink RX1 58 yX1_passBetween, Cond.static yX1_passBetween, Cond.code yX1_passBetween cX1_passBetween 8 (some .double), Cond.constantDouble RX1 62 (4606281698874543309), Cond.constantDouble RX1 64 (4602678819172646912), Cond.fieldLink RX1 69 "VinegarLoft$Barrel" "acid" "D", Cond.methodLink RX1 75 yX0_takeOut, Cond.instanceMethod yX0_takeOut, Cond.selects RX0 yX0_takeOut yX0_takeOut, Cond.code yX0_takeOut cX0_takeOut 3 none, Cond.methodLink RX0 33 yX0_clear, Cond.instanceMethod yX0_clear, Cond.selects RX0 yX0_clear yX0_clear, Cond.code yX0_clear cX0_clear 1 none]
def wsX2_firstBottleIn_r4 : List Cond := [Cond.methodLink RX2 63 yX1_ageAll, Cond.instanceMethod yX1_ageAll, Cond.selects RX1 yX1_ageAll yX1_ageAll, Cond.code yX1_ageAll cX1_ageAll 6 (some .double), Cond.constantDouble RX1 94 (4598175219545276416), Cond.methodLink RX1 79 yX1_draughtNow, Cond.instanceMethod yX1_draughtNow, Cond.selects RX1 yX1_draughtNow yX1_draughtNow, Cond.code yX1_draughtNow cX1_draughtNow 3 (some .double), Cond.constantDouble RX1 96 (4587366580439587226), Cond.constantDouble RX1 98 (4596373779694328218), Cond.methodLink RX1 86 yX0_spendYear, Cond.instanceMethod yX0_spendYear, Cond.selects RX0 yX0_spendYear yX0_spendYear, Cond.code yX0_spendYear cX0_spendYear 9 (some .double), Cond.constantDouble RX0 48 (4634626229029306368), Cond.methodLink RX0 36 yX0_share, Cond.static yX0_share, Cond.code yX0_share cX0_share 1 (some .double), Cond.constantDouble RX0 71 (4581421828931458171), Cond.constantDouble RX0 73 (4584304132692975288), Cond.constantDouble RX0 75 (4585204852618449388), Cond.constantDouble RX0 77 (4582862980812216730), Cond.methodLink RX0 40 yX0_takeOut]
def wsX2_firstBottleIn_r5 : List Cond := [Cond.methodLink RX0 44 yX0_isEmpty, Cond.methodLink RX0 50 yX0_sour, Cond.instanceMethod yX0_sour, Cond.selects RX0 yX0_sour yX0_sour, Cond.code yX0_sour cX0_sour 3 none, Cond.constantDouble RX0 53 (4626322717216342016), Cond.constantDouble RX0 55 (4620693217682128896), Cond.constantDouble RX0 57 (4603579539098121011), Cond.constantDouble RX0 59 (4605380978949069210), Cond.constantDouble RX0 61 (4591870180066957722), Cond.constantDouble RX0 63 (4622945017495814144)]
def wsX2_firstBottleIn : List Cond := .code yX2_firstBottleIn cX2_firstBottleIn 2 (some .int) :: ((wsX2_firstBottleIn_r1 ++ (wsX2_firstBottleIn_r2 ++ (wsX2_firstBottleIn_r3 ++ (wsX2_firstBottleIn_r4 ++ wsX2_firstBottleIn_r5)))) ++ wsX20 ++ wsX10 ++ wsX00)
def wsL_drawn : List Cond := .code yL_drawn cL_drawn 4 (some .int) :: ([.constant RL 7 (46337)])
def wsL_isNear : List Cond := .code yL_isNear cL_isNear 8 (some .boolean) :: ([.constantDouble RL 8 (4517329193108106637)])
def wsL_litres : List Cond := .code yL_litres cL_litres 4 (some .double) :: ([.methodLink RL 10 yX2_barrels, .instanceMethod yX2_barrels, .selects RX2 yX2_barrels yX2_barrels, .initialized RX2, .code yX2_barrels cX2_barrels 1 (some .int), .fieldLink RX2 10 "VinegarLoft" "row" "LVinegarLoft$Row;", .fieldLink RX2 100 "VinegarLoft$Row" "count" "I", .methodLink RL 16 yX2_litresIn, .instanceMethod yX2_litresIn, .selects RX2 yX2_litresIn yX2_litresIn, .code yX2_litresIn cX2_litresIn 2 (some .double), .fieldLink RX2 86 "VinegarLoft$Barrel" "litres" "D", .methodLink RX2 82 yX2_barrelNumbered, .instanceMethod yX2_barrelNumbered, .selects RX2 yX2_barrelNumbered yX2_barrelNumbered, .code yX2_barrelNumbered cX2_barrelNumbered 2 (some (.object "VinegarLoft$Barrel")), .classLink RX2 133 "java/lang/IndexOutOfBoundsException", .initialized "java/lang/IndexOutOfBoundsException", .fieldLink RX2 138 "VinegarLoft$Row" "line" "[LVinegarLoft$Barrel;"] ++ wsX20 ++ wsX10 ++ wsX00 ++ (vx_atS RX2 137 "java/lang/IndexOutOfBoundsException" ["java/lang/RuntimeException", "java/lang/Exception"]).filter goodWord)
def wsL_acid : List Cond := .code yL_acid cL_acid 4 (some .double) :: ([.methodLink RL 10 yX2_barrels, .instanceMethod yX2_barrels, .selects RX2 yX2_barrels yX2_barrels, .initialized RX2, .code yX2_barrels cX2_barrels 1 (some .int), .fieldLink RX2 10 "VinegarLoft" "row" "LVinegarLoft$Row;", .fieldLink RX2 100 "VinegarLoft$Row" "count" "I", .methodLink RL 16 yX2_litresIn, .instanceMethod yX2_litresIn, .selects RX2 yX2_litresIn yX2_litresIn, .code yX2_litresIn cX2_litresIn 2 (some .double), .fieldLink RX2 86 "VinegarLoft$Barrel" "litres" "D", .methodLink RX2 82 yX2_barrelNumbered, .instanceMethod yX2_barrelNumbered, .selects RX2 yX2_barrelNumbered yX2_barrelNumbered, .code yX2_barrelNumbered cX2_barrelNumbered 2 (some (.object "VinegarLoft$Barrel")), .classLink RX2 133 "java/lang/IndexOutOfBoundsException", .initialized "java/lang/IndexOutOfBoundsException", .fieldLink RX2 138 "VinegarLoft$Row" "line" "[LVinegarLoft$Barrel;", .methodLink RL 20 yX2_acidOf, .instanceMethod yX2_acidOf, .selects RX2 yX2_acidOf yX2_acidOf, .code yX2_acidOf cX2_acidOf 2 (some .double), .fieldLink RX2 106 "VinegarLoft$Barrel" "acid" "D"] ++ wsX20 ++ wsX10 ++ wsX00 ++ (vx_atS RX2 137 "java/lang/IndexOutOfBoundsException" ["java/lang/RuntimeException", "java/lang/Exception"]).filter goodWord)
def wsL_isMoved_r1 : List Cond := [Cond.constantDouble RL 8 (4517329193108106637), Cond.methodLink RL 23 yL_litres, Cond.static yL_litres, Cond.initialized RL, Cond.code yL_litres cL_litres 4 (some .double), Cond.methodLink RL 10 yX2_barrels, Cond.instanceMethod yX2_barrels, Cond.selects RX2 yX2_barrels yX2_barrels, Cond.initialized RX2, Cond.code yX2_barrels cX2_barrels 1 (some .int), Cond.fieldLink RX2 10 "VinegarLoft" "row" "LVinegarLoft$Row;", Cond.fieldLink RX2 100 "VinegarLoft$Row" "count" "I", Cond.methodLink RL 16 yX2_litresIn, Cond.instanceMethod yX2_litresIn, Cond.selects RX2 yX2_litresIn yX2_litresIn, Cond.code yX2_litresIn cX2_litresIn 2 (some .double), Cond.fieldLink RX2 86 "VinegarLoft$Barrel" "litres" "D", Cond.methodLink RX2 82 yX2_barrelNumbered, Cond.instanceMethod yX2_barrelNumbered, Cond.selects RX2 yX2_barrelNumbered yX2_barrelNumbered, Cond.code yX2_barrelNumbered cX2_barrelNumbered 2 (some (.object "VinegarLoft$Barrel")), Cond.classLink RX2 133 "java/lang/IndexOutOfBoundsException", Cond.initialized "java/lang/IndexOutOfBoundsException", Cond.fieldLink RX2 138 "VinegarLoft$Row" "line" "[LVinegarLoft$Barrel;"]
def wsL_isMoved_r2 : List Cond := [Cond.methodLink RL 29 yL_acid, Cond.static yL_acid, Cond.code yL_acid cL_acid 4 (some .double), Cond.methodLink RL 20 yX2_acidOf, Cond.instanceMethod yX2_acidOf, Cond.selects RX2 yX2_acidOf yX2_acidOf, Cond.code yX2_acidOf cX2_acidOf 2 (some .double), Cond.fieldLink RX2 106 "VinegarLoft$Barrel" "acid" "D", Cond.methodLink RL 32 yX2_meanAge, Cond.instanceMethod yX2_meanAge, Cond.selects RX2 yX2_meanAge yX2_meanAge, Cond.code yX2_meanAge cX2_meanAge 3 (some .double), Cond.methodLink RX2 120 yX1_allLitres, Cond.instanceMethod yX1_allLitres, Cond.selects RX1 yX1_allLitres yX1_allLitres, Cond.initialized RX1, Cond.code yX1_allLitres cX1_allLitres 4 (some .double), Cond.fieldLink RX1 18 "VinegarLoft$Row" "count" "I", Cond.fieldLink RX1 11 "VinegarLoft$Row" "line" "[LVinegarLoft$Barrel;", Cond.fieldLink RX1 49 "VinegarLoft$Barrel" "litres" "D", Cond.methodLink RX2 123 yX1_litresTimesAge, Cond.instanceMethod yX1_litresTimesAge, Cond.selects RX1 yX1_litresTimesAge yX1_litresTimesAge, Cond.code yX1_litresTimesAge cX1_litresTimesAge 4 (some .double)]
def wsL_isMoved_r3 : List Cond := [Cond.fieldLink RX1 66 "VinegarLoft$Barrel" "age" "D", Cond.methodLink RL 36 yX2_meanSugar, Cond.instanceMethod yX2_meanSugar, Cond.selects RX2 yX2_meanSugar yX2_meanSugar, Cond.code yX2_meanSugar cX2_meanSugar 3 (some .double), Cond.methodLink RX2 126 yX1_litresTimesSugar, Cond.instanceMethod yX1_litresTimesSugar, Cond.selects RX1 yX1_litresTimesSugar yX1_litresTimesSugar, Cond.code yX1_litresTimesSugar cX1_litresTimesSugar 4 (some .double), Cond.fieldLink RX1 72 "VinegarLoft$Barrel" "sugar" "D", Cond.methodLink RL 39 yX2_tasteOf, Cond.instanceMethod yX2_tasteOf, Cond.selects RX2 yX2_tasteOf yX2_tasteOf, Cond.code yX2_tasteOf cX2_tasteOf 2 (some .double), Cond.methodLink RX2 112 yX0_taste, Cond.instanceMethod yX0_taste, Cond.selects RX0 yX0_taste yX0_taste, Cond.initialized RX0, Cond.code yX0_taste cX0_taste 5 (some .double), Cond.fieldLink RX0 23 "VinegarLoft$Barrel" "acid" "D", Cond.constantDouble RX0 65 (4618441417868443648), Cond.constantDouble RX0 67 (4602678819172646912), Cond.fieldLink RX0 20 "VinegarLoft$Barrel" "age" "D", Cond.constantDouble RX0 59 (4605380978949069210)]
def wsL_isMoved_r4 : List Cond := [Cond.fieldLink RX0 26 "VinegarLoft$Barrel" "sugar" "D", Cond.constantDouble RX0 69 (4613937818241073152), Cond.methodLink RX0 44 yX0_isEmpty, Cond.instanceMethod yX0_isEmpty, Cond.selects RX0 yX0_isEmpty yX0_isEmpty, Cond.code yX0_isEmpty cX0_isEmpty 1 (some .boolean), Cond.fieldLink RX0 16 "VinegarLoft$Barrel" "litres" "D", Cond.methodLink RL 42 yX2_topUp, Cond.instanceMethod yX2_topUp, Cond.selects RX2 yX2_topUp yX2_topUp, Cond.code yX2_topUp cX2_topUp 1 (some .double), Cond.methodLink RX2 59 yX1_passDown, Cond.instanceMethod yX1_passDown, Cond.selects RX1 yX1_passDown yX1_passDown, Cond.code yX1_passDown cX1_passDown 4 (some .double), Cond.methodLink RX1 58 yX1_passBetween, Cond.static yX1_passBetween, Cond.code yX1_passBetween cX1_passBetween 8 (some .double), Cond.constantDouble RX1 62 (4606281698874543309), Cond.fieldLink RX1 36 "VinegarLoft$Barrel" "size" "I", Cond.constantDouble RX1 64 (4602678819172646912), Cond.fieldLink RX1 69 "VinegarLoft$Barrel" "acid" "D", Cond.methodLink RX1 54 yX0_mixIn, Cond.instanceMethod yX0_mixIn]
def wsL_isMoved_r5 : List Cond := [Cond.selects RX0 yX0_mixIn yX0_mixIn, Cond.code yX0_mixIn cX0_mixIn 9 none, Cond.methodLink RX0 29 yX0_mixed, Cond.static yX0_mixed, Cond.code yX0_mixed cX0_mixed 10 (some .double), Cond.methodLink RX1 75 yX0_takeOut, Cond.instanceMethod yX0_takeOut, Cond.selects RX0 yX0_takeOut yX0_takeOut, Cond.code yX0_takeOut cX0_takeOut 3 none, Cond.methodLink RX0 33 yX0_clear, Cond.instanceMethod yX0_clear, Cond.selects RX0 yX0_clear yX0_clear, Cond.code yX0_clear cX0_clear 1 none, Cond.methodLink RL 45 yL_isNear, Cond.static yL_isNear, Cond.code yL_isNear cL_isNear 8 (some .boolean)]
def wsL_isMoved : List Cond := .code yL_isMoved cL_isMoved 16 (some .boolean) :: ((wsL_isMoved_r1 ++ (wsL_isMoved_r2 ++ (wsL_isMoved_r3 ++ (wsL_isMoved_r4 ++ wsL_isMoved_r5)))) ++ wsX20 ++ wsX10 ++ wsX00 ++ (vx_atS RX2 137 "java/lang/IndexOutOfBoundsException" ["java/lang/RuntimeException", "java/lang/Exception"]).filter goodWord)
def wsL_isAged_r1 : List Cond := [Cond.arrayClass .double, Cond.constantDouble RL 61 (4606281698874543309), Cond.constantDouble RL 66 (4634626229029306368), Cond.constantDouble RL 68 (4622945017495814144), Cond.constantDouble RL 8 (4517329193108106637), Cond.constantDouble RL 73 (4627730092099895296), Cond.methodLink RL 23 yL_litres, Cond.static yL_litres, Cond.initialized RL, Cond.code yL_litres cL_litres 4 (some .double), Cond.methodLink RL 10 yX2_barrels, Cond.instanceMethod yX2_barrels, Cond.selects RX2 yX2_barrels yX2_barrels, Cond.initialized RX2, Cond.code yX2_barrels cX2_barrels 1 (some .int), Cond.fieldLink RX2 10 "VinegarLoft" "row" "LVinegarLoft$Row;", Cond.fieldLink RX2 100 "VinegarLoft$Row" "count" "I", Cond.methodLink RL 16 yX2_litresIn, Cond.instanceMethod yX2_litresIn, Cond.selects RX2 yX2_litresIn yX2_litresIn, Cond.code yX2_litresIn cX2_litresIn 2 (some .double), Cond.fieldLink RX2 86 "VinegarLoft$Barrel" "litres" "D", Cond.methodLink RX2 82 yX2_barrelNumbered, Cond.instanceMethod yX2_barrelNumbered]
def wsL_isAged_r2 : List Cond := [Cond.selects RX2 yX2_barrelNumbered yX2_barrelNumbered, Cond.code yX2_barrelNumbered cX2_barrelNumbered 2 (some (.object "VinegarLoft$Barrel")), Cond.classLink RX2 133 "java/lang/IndexOutOfBoundsException", Cond.initialized "java/lang/IndexOutOfBoundsException", Cond.fieldLink RX2 138 "VinegarLoft$Row" "line" "[LVinegarLoft$Barrel;", Cond.methodLink RL 49 yX2_oldest, Cond.instanceMethod yX2_oldest, Cond.selects RX2 yX2_oldest yX2_oldest, Cond.code yX2_oldest cX2_oldest 1 (some .int), Cond.methodLink RX2 115 yX1_eldest, Cond.instanceMethod yX1_eldest, Cond.selects RX1 yX1_eldest yX1_eldest, Cond.initialized RX1, Cond.code yX1_eldest cX1_eldest 5 (some .int), Cond.fieldLink RX1 18 "VinegarLoft$Row" "count" "I", Cond.fieldLink RX1 11 "VinegarLoft$Row" "line" "[LVinegarLoft$Barrel;", Cond.fieldLink RX1 66 "VinegarLoft$Barrel" "age" "D", Cond.methodLink RX1 83 yX0_isEmpty, Cond.instanceMethod yX0_isEmpty, Cond.selects RX0 yX0_isEmpty yX0_isEmpty, Cond.initialized RX0, Cond.code yX0_isEmpty cX0_isEmpty 1 (some .boolean), Cond.fieldLink RX0 16 "VinegarLoft$Barrel" "litres" "D", Cond.methodLink RL 52 yX2_ageOf]
def wsL_isAged_r3 : List Cond := [Cond.instanceMethod yX2_ageOf, Cond.selects RX2 yX2_ageOf yX2_ageOf, Cond.code yX2_ageOf cX2_ageOf 2 (some .double), Cond.fieldLink RX2 103 "VinegarLoft$Barrel" "age" "D", Cond.methodLink RL 55 yX2_years, Cond.instanceMethod yX2_years, Cond.selects RX2 yX2_years yX2_years, Cond.code yX2_years cX2_years 1 (some .int), Cond.fieldLink RX2 23 "VinegarLoft" "yearsGone" "I", Cond.methodLink RL 58 yX2_year, Cond.instanceMethod yX2_year, Cond.selects RX2 yX2_year yX2_year, Cond.code yX2_year cX2_year 1 (some .double), Cond.methodLink RX2 63 yX1_ageAll, Cond.instanceMethod yX1_ageAll, Cond.selects RX1 yX1_ageAll yX1_ageAll, Cond.code yX1_ageAll cX1_ageAll 6 (some .double), Cond.fieldLink RX1 25 "VinegarLoft$Row" "drawnFrom" "I", Cond.constantDouble RX1 94 (4598175219545276416), Cond.fieldLink RX1 49 "VinegarLoft$Barrel" "litres" "D", Cond.fieldLink RX1 28 "VinegarLoft$Row" "mayBeDrawn" "D", Cond.methodLink RX1 79 yX1_draughtNow, Cond.instanceMethod yX1_draughtNow, Cond.selects RX1 yX1_draughtNow yX1_draughtNow]
def wsL_isAged_r4 : List Cond := [Cond.code yX1_draughtNow cX1_draughtNow 3 (some .double), Cond.constantDouble RX1 96 (4587366580439587226), Cond.fieldLink RX1 22 "VinegarLoft$Row" "warmth" "I", Cond.constantDouble RX1 98 (4596373779694328218), Cond.methodLink RX1 86 yX0_spendYear, Cond.instanceMethod yX0_spendYear, Cond.selects RX0 yX0_spendYear yX0_spendYear, Cond.code yX0_spendYear cX0_spendYear 9 (some .double), Cond.fieldLink RX0 7 "VinegarLoft$Barrel" "wood" "I", Cond.fieldLink RX0 26 "VinegarLoft$Barrel" "sugar" "D", Cond.constantDouble RX0 48 (4634626229029306368), Cond.fieldLink RX0 20 "VinegarLoft$Barrel" "age" "D", Cond.methodLink RX0 36 yX0_share, Cond.static yX0_share, Cond.code yX0_share cX0_share 1 (some .double), Cond.constantDouble RX0 71 (4581421828931458171), Cond.constantDouble RX0 73 (4584304132692975288), Cond.constantDouble RX0 75 (4585204852618449388), Cond.constantDouble RX0 77 (4582862980812216730), Cond.methodLink RX0 40 yX0_takeOut, Cond.instanceMethod yX0_takeOut, Cond.selects RX0 yX0_takeOut yX0_takeOut, Cond.code yX0_takeOut cX0_takeOut 3 none, Cond.methodLink RX0 33 yX0_clear]
def wsL_isAged_r5 : List Cond := [Cond.instanceMethod yX0_clear, Cond.selects RX0 yX0_clear yX0_clear, Cond.code yX0_clear cX0_clear 1 none, Cond.fieldLink RX0 23 "VinegarLoft$Barrel" "acid" "D", Cond.methodLink RX0 44 yX0_isEmpty, Cond.methodLink RX0 50 yX0_sour, Cond.instanceMethod yX0_sour, Cond.selects RX0 yX0_sour yX0_sour, Cond.code yX0_sour cX0_sour 3 none, Cond.constantDouble RX0 53 (4626322717216342016), Cond.constantDouble RX0 55 (4620693217682128896), Cond.constantDouble RX0 57 (4603579539098121011), Cond.constantDouble RX0 59 (4605380978949069210), Cond.constantDouble RX0 61 (4591870180066957722), Cond.constantDouble RX0 63 (4622945017495814144), Cond.methodLink RX1 90 yX1_eldest, Cond.methodLink RL 45 yL_isNear, Cond.static yL_isNear, Cond.code yL_isNear cL_isNear 8 (some .boolean), Cond.methodLink RL 63 yX2_sugarOf, Cond.instanceMethod yX2_sugarOf, Cond.selects RX2 yX2_sugarOf yX2_sugarOf, Cond.code yX2_sugarOf cX2_sugarOf 2 (some .double), Cond.fieldLink RX2 109 "VinegarLoft$Barrel" "sugar" "D"]
def wsL_isAged_r6 : List Cond := [Cond.methodLink RL 20 yX2_acidOf, Cond.instanceMethod yX2_acidOf, Cond.selects RX2 yX2_acidOf yX2_acidOf, Cond.code yX2_acidOf cX2_acidOf 2 (some .double), Cond.fieldLink RX2 106 "VinegarLoft$Barrel" "acid" "D", Cond.methodLink RL 32 yX2_meanAge, Cond.instanceMethod yX2_meanAge, Cond.selects RX2 yX2_meanAge yX2_meanAge, Cond.code yX2_meanAge cX2_meanAge 3 (some .double), Cond.methodLink RX2 120 yX1_allLitres, Cond.instanceMethod yX1_allLitres, Cond.selects RX1 yX1_allLitres yX1_allLitres, Cond.code yX1_allLitres cX1_allLitres 4 (some .double), Cond.methodLink RX2 123 yX1_litresTimesAge, Cond.instanceMethod yX1_litresTimesAge, Cond.selects RX1 yX1_litresTimesAge yX1_litresTimesAge, Cond.code yX1_litresTimesAge cX1_litresTimesAge 4 (some .double), Cond.methodLink RL 70 yX2_drawable, Cond.instanceMethod yX2_drawable, Cond.selects RX2 yX2_drawable yX2_drawable, Cond.code yX2_drawable cX2_drawable 1 (some .int), Cond.methodLink RX2 68 yX1_bottlesReady, Cond.instanceMethod yX1_bottlesReady, Cond.selects RX1 yX1_bottlesReady yX1_bottlesReady]
def wsL_isAged_r7 : List Cond := [Cond.code yX1_bottlesReady cX1_bottlesReady 5 (some .int), Cond.constantDouble RX1 100 (4622945017495814144), Cond.fieldLink RX1 72 "VinegarLoft$Barrel" "sugar" "D", Cond.constantDouble RX1 102 (4627730092099895296), Cond.constantDouble RX1 104 (4591870180066957722)]
def wsL_isAged : List Cond := .code yL_isAged cL_isAged 13 (some .boolean) :: ((wsL_isAged_r1 ++ (wsL_isAged_r2 ++ (wsL_isAged_r3 ++ (wsL_isAged_r4 ++ (wsL_isAged_r5 ++ (wsL_isAged_r6 ++ wsL_isAged_r7)))))) ++ wsX20 ++ wsX10 ++ wsX00 ++ (vx_atS RX2 137 "java/lang/IndexOutOfBoundsException" ["java/lang/RuntimeException", "java/lang/Exception"]).filter goodWord)
def wsL_isFilled_r1 : List Cond := [Cond.constantDouble RL 8 (4517329193108106637), Cond.methodLink RL 23 yL_litres, Cond.static yL_litres, Cond.initialized RL, Cond.code yL_litres cL_litres 4 (some .double), Cond.methodLink RL 10 yX2_barrels, Cond.instanceMethod yX2_barrels, Cond.selects RX2 yX2_barrels yX2_barrels, Cond.initialized RX2, Cond.code yX2_barrels cX2_barrels 1 (some .int), Cond.fieldLink RX2 10 "VinegarLoft" "row" "LVinegarLoft$Row;", Cond.fieldLink RX2 100 "VinegarLoft$Row" "count" "I", Cond.methodLink RL 16 yX2_litresIn, Cond.instanceMethod yX2_litresIn, Cond.selects RX2 yX2_litresIn yX2_litresIn, Cond.code yX2_litresIn cX2_litresIn 2 (some .double), Cond.fieldLink RX2 86 "VinegarLoft$Barrel" "litres" "D", Cond.methodLink RX2 82 yX2_barrelNumbered, Cond.instanceMethod yX2_barrelNumbered, Cond.selects RX2 yX2_barrelNumbered yX2_barrelNumbered, Cond.code yX2_barrelNumbered cX2_barrelNumbered 2 (some (.object "VinegarLoft$Barrel")), Cond.classLink RX2 133 "java/lang/IndexOutOfBoundsException", Cond.initialized "java/lang/IndexOutOfBoundsException", Cond.fieldLink RX2 138 "VinegarLoft$Row" "line" "[LVinegarLoft$Barrel;"]
def wsL_isFilled_r2 : List Cond := [Cond.methodLink RL 75 yX2_fill, Cond.instanceMethod yX2_fill, Cond.selects RX2 yX2_fill yX2_fill, Cond.code yX2_fill cX2_fill 2 (some .double), Cond.classLink RX2 27 "java/lang/IllegalArgumentException", Cond.initialized "java/lang/IllegalArgumentException", Cond.methodLink RX2 55 yX1_pourMust, Cond.instanceMethod yX1_pourMust, Cond.selects RX1 yX1_pourMust yX1_pourMust, Cond.initialized RX1, Cond.code yX1_pourMust cX1_pourMust 7 (some .double), Cond.fieldLink RX1 18 "VinegarLoft$Row" "count" "I", Cond.fieldLink RX1 11 "VinegarLoft$Row" "line" "[LVinegarLoft$Barrel;", Cond.fieldLink RX1 36 "VinegarLoft$Barrel" "size" "I", Cond.fieldLink RX1 49 "VinegarLoft$Barrel" "litres" "D", Cond.constantDouble RX1 52 (4629137466983448576), Cond.methodLink RX1 54 yX0_mixIn, Cond.instanceMethod yX0_mixIn, Cond.selects RX0 yX0_mixIn yX0_mixIn, Cond.initialized RX0, Cond.code yX0_mixIn cX0_mixIn 9 none, Cond.fieldLink RX0 16 "VinegarLoft$Barrel" "litres" "D", Cond.fieldLink RX0 20 "VinegarLoft$Barrel" "age" "D", Cond.fieldLink RX0 23 "VinegarLoft$Barrel" "acid" "D"]
def wsL_isFilled_r3 : List Cond := [Cond.fieldLink RX0 26 "VinegarLoft$Barrel" "sugar" "D", Cond.methodLink RX0 29 yX0_mixed, Cond.static yX0_mixed, Cond.code yX0_mixed cX0_mixed 10 (some .double), Cond.methodLink RL 45 yL_isNear, Cond.static yL_isNear, Cond.code yL_isNear cL_isNear 8 (some .boolean), Cond.methodLink RL 70 yX2_drawable, Cond.instanceMethod yX2_drawable, Cond.selects RX2 yX2_drawable yX2_drawable, Cond.code yX2_drawable cX2_drawable 1 (some .int), Cond.methodLink RX2 68 yX1_bottlesReady, Cond.instanceMethod yX1_bottlesReady, Cond.selects RX1 yX1_bottlesReady yX1_bottlesReady, Cond.code yX1_bottlesReady cX1_bottlesReady 5 (some .int), Cond.fieldLink RX1 25 "VinegarLoft$Row" "drawnFrom" "I", Cond.fieldLink RX1 66 "VinegarLoft$Barrel" "age" "D", Cond.constantDouble RX1 100 (4622945017495814144), Cond.fieldLink RX1 72 "VinegarLoft$Barrel" "sugar" "D", Cond.constantDouble RX1 102 (4627730092099895296), Cond.fieldLink RX1 28 "VinegarLoft$Row" "mayBeDrawn" "D", Cond.constantDouble RX1 104 (4591870180066957722), Cond.methodLink RX1 90 yX1_eldest, Cond.instanceMethod yX1_eldest]
def wsL_isFilled_r4 : List Cond := [Cond.selects RX1 yX1_eldest yX1_eldest, Cond.code yX1_eldest cX1_eldest 5 (some .int), Cond.methodLink RX1 83 yX0_isEmpty, Cond.instanceMethod yX0_isEmpty, Cond.selects RX0 yX0_isEmpty yX0_isEmpty, Cond.code yX0_isEmpty cX0_isEmpty 1 (some .boolean)]
def wsL_isFilled : List Cond := .code yL_isFilled cL_isFilled 9 (some .boolean) :: ((wsL_isFilled_r1 ++ (wsL_isFilled_r2 ++ (wsL_isFilled_r3 ++ wsL_isFilled_r4))) ++ wsX20 ++ wsX10 ++ wsX00 ++ (vx_atS RX2 137 "java/lang/IndexOutOfBoundsException" ["java/lang/RuntimeException", "java/lang/Exception"]).filter goodWord ++ (vx_atS RX2 31 "java/lang/IllegalArgumentException" ["java/lang/RuntimeException", "java/lang/Exception"]).filter goodWord)
def wsL_isBottled_r1 : List Cond := [Cond.constantDouble RL 85 (4591870180066957722), Cond.methodLink RL 70 yX2_drawable, Cond.instanceMethod yX2_drawable, Cond.selects RX2 yX2_drawable yX2_drawable, Cond.initialized RX2, Cond.code yX2_drawable cX2_drawable 1 (some .int), Cond.fieldLink RX2 10 "VinegarLoft" "row" "LVinegarLoft$Row;", Cond.methodLink RX2 68 yX1_bottlesReady, Cond.instanceMethod yX1_bottlesReady, Cond.selects RX1 yX1_bottlesReady yX1_bottlesReady, Cond.initialized RX1, Cond.code yX1_bottlesReady cX1_bottlesReady 5 (some .int), Cond.fieldLink RX1 25 "VinegarLoft$Row" "drawnFrom" "I", Cond.fieldLink RX1 11 "VinegarLoft$Row" "line" "[LVinegarLoft$Barrel;", Cond.fieldLink RX1 66 "VinegarLoft$Barrel" "age" "D", Cond.constantDouble RX1 100 (4622945017495814144), Cond.fieldLink RX1 72 "VinegarLoft$Barrel" "sugar" "D", Cond.constantDouble RX1 102 (4627730092099895296), Cond.fieldLink RX1 28 "VinegarLoft$Row" "mayBeDrawn" "D", Cond.fieldLink RX1 49 "VinegarLoft$Barrel" "litres" "D", Cond.constantDouble RX1 104 (4591870180066957722), Cond.methodLink RX1 90 yX1_eldest, Cond.instanceMethod yX1_eldest, Cond.selects RX1 yX1_eldest yX1_eldest]
def wsL_isBottled_r2 : List Cond := [Cond.code yX1_eldest cX1_eldest 5 (some .int), Cond.fieldLink RX1 18 "VinegarLoft$Row" "count" "I", Cond.methodLink RX1 83 yX0_isEmpty, Cond.instanceMethod yX0_isEmpty, Cond.selects RX0 yX0_isEmpty yX0_isEmpty, Cond.initialized RX0, Cond.code yX0_isEmpty cX0_isEmpty 1 (some .boolean), Cond.fieldLink RX0 16 "VinegarLoft$Barrel" "litres" "D", Cond.methodLink RL 78 yX2_bottles, Cond.instanceMethod yX2_bottles, Cond.selects RX2 yX2_bottles yX2_bottles, Cond.code yX2_bottles cX2_bottles 2 (some .int), Cond.classLink RX2 27 "java/lang/IllegalArgumentException", Cond.initialized "java/lang/IllegalArgumentException", Cond.fieldLink RX2 19 "VinegarLoft" "drawnByKind" "[I", Cond.methodLink RL 23 yL_litres, Cond.static yL_litres, Cond.initialized RL, Cond.code yL_litres cL_litres 4 (some .double), Cond.methodLink RL 10 yX2_barrels, Cond.instanceMethod yX2_barrels, Cond.selects RX2 yX2_barrels yX2_barrels, Cond.code yX2_barrels cX2_barrels 1 (some .int), Cond.fieldLink RX2 100 "VinegarLoft$Row" "count" "I"]
def wsL_isBottled_r3 : List Cond := [Cond.methodLink RL 16 yX2_litresIn, Cond.instanceMethod yX2_litresIn, Cond.selects RX2 yX2_litresIn yX2_litresIn, Cond.code yX2_litresIn cX2_litresIn 2 (some .double), Cond.fieldLink RX2 86 "VinegarLoft$Barrel" "litres" "D", Cond.methodLink RX2 82 yX2_barrelNumbered, Cond.instanceMethod yX2_barrelNumbered, Cond.selects RX2 yX2_barrelNumbered yX2_barrelNumbered, Cond.code yX2_barrelNumbered cX2_barrelNumbered 2 (some (.object "VinegarLoft$Barrel")), Cond.classLink RX2 133 "java/lang/IndexOutOfBoundsException", Cond.initialized "java/lang/IndexOutOfBoundsException", Cond.fieldLink RX2 138 "VinegarLoft$Row" "line" "[LVinegarLoft$Barrel;", Cond.methodLink RL 82 yX2_draw, Cond.instanceMethod yX2_draw, Cond.selects RX2 yX2_draw yX2_draw, Cond.code yX2_draw cX2_draw 4 (some .int), Cond.methodLink RX2 71 yX1_greatestAge, Cond.instanceMethod yX1_greatestAge, Cond.selects RX1 yX1_greatestAge yX1_greatestAge, Cond.code yX1_greatestAge cX1_greatestAge 2 (some .double), Cond.methodLink RX2 74 yX2_kindAt, Cond.static yX2_kindAt, Cond.code yX2_kindAt cX2_kindAt 2 (some .int), Cond.constantDouble RX2 142 (4625759767262920704)]
def wsL_isBottled_r4 : List Cond := [Cond.constantDouble RX2 144 (4627730092099895296), Cond.methodLink RX2 78 yX1_takeBottles, Cond.instanceMethod yX1_takeBottles, Cond.selects RX1 yX1_takeBottles yX1_takeBottles, Cond.code yX1_takeBottles cX1_takeBottles 4 none, Cond.methodLink RX1 75 yX0_takeOut, Cond.instanceMethod yX0_takeOut, Cond.selects RX0 yX0_takeOut yX0_takeOut, Cond.code yX0_takeOut cX0_takeOut 3 none, Cond.methodLink RX0 33 yX0_clear, Cond.instanceMethod yX0_clear, Cond.selects RX0 yX0_clear yX0_clear, Cond.code yX0_clear cX0_clear 1 none, Cond.fieldLink RX0 20 "VinegarLoft$Barrel" "age" "D", Cond.fieldLink RX0 23 "VinegarLoft$Barrel" "acid" "D", Cond.fieldLink RX0 26 "VinegarLoft$Barrel" "sugar" "D", Cond.methodLink RL 45 yL_isNear, Cond.static yL_isNear, Cond.code yL_isNear cL_isNear 8 (some .boolean), Cond.constantDouble RL 8 (4517329193108106637)]
def wsL_isBottled : List Cond := .code yL_isBottled cL_isBottled 7 (some .boolean) :: ((wsL_isBottled_r1 ++ (wsL_isBottled_r2 ++ (wsL_isBottled_r3 ++ wsL_isBottled_r4))) ++ wsX20 ++ wsX10 ++ wsX00 ++ (vx_atS RX2 31 "java/lang/IllegalArgumentException" ["java/lang/RuntimeException", "java/lang/Exception"]).filter goodWord ++ (vx_atS RX2 137 "java/lang/IndexOutOfBoundsException" ["java/lang/RuntimeException", "java/lang/Exception"]).filter goodWord)
def wsL_isPoured_r1 : List Cond := [Cond.methodLink RL 23 yL_litres, Cond.static yL_litres, Cond.initialized RL, Cond.code yL_litres cL_litres 4 (some .double), Cond.methodLink RL 10 yX2_barrels, Cond.instanceMethod yX2_barrels, Cond.selects RX2 yX2_barrels yX2_barrels, Cond.initialized RX2, Cond.code yX2_barrels cX2_barrels 1 (some .int), Cond.fieldLink RX2 10 "VinegarLoft" "row" "LVinegarLoft$Row;", Cond.fieldLink RX2 100 "VinegarLoft$Row" "count" "I", Cond.methodLink RL 16 yX2_litresIn, Cond.instanceMethod yX2_litresIn, Cond.selects RX2 yX2_litresIn yX2_litresIn, Cond.code yX2_litresIn cX2_litresIn 2 (some .double), Cond.fieldLink RX2 86 "VinegarLoft$Barrel" "litres" "D", Cond.methodLink RX2 82 yX2_barrelNumbered, Cond.instanceMethod yX2_barrelNumbered, Cond.selects RX2 yX2_barrelNumbered yX2_barrelNumbered, Cond.code yX2_barrelNumbered cX2_barrelNumbered 2 (some (.object "VinegarLoft$Barrel")), Cond.classLink RX2 133 "java/lang/IndexOutOfBoundsException", Cond.initialized "java/lang/IndexOutOfBoundsException", Cond.fieldLink RX2 138 "VinegarLoft$Row" "line" "[LVinegarLoft$Barrel;", Cond.methodLink RL 87 yX2_pourAway]
def wsL_isPoured_r2 : List Cond := [Cond.instanceMethod yX2_pourAway, Cond.selects RX2 yX2_pourAway yX2_pourAway, Cond.code yX2_pourAway cX2_pourAway 5 (some .double), Cond.methodLink RX2 92 yX0_clear, Cond.instanceMethod yX0_clear, Cond.selects RX0 yX0_clear yX0_clear, Cond.initialized RX0, Cond.code yX0_clear cX0_clear 1 none, Cond.fieldLink RX0 16 "VinegarLoft$Barrel" "litres" "D", Cond.fieldLink RX0 20 "VinegarLoft$Barrel" "age" "D", Cond.fieldLink RX0 23 "VinegarLoft$Barrel" "acid" "D", Cond.fieldLink RX0 26 "VinegarLoft$Barrel" "sugar" "D", Cond.methodLink RL 20 yX2_acidOf, Cond.instanceMethod yX2_acidOf, Cond.selects RX2 yX2_acidOf yX2_acidOf, Cond.code yX2_acidOf cX2_acidOf 2 (some .double), Cond.fieldLink RX2 106 "VinegarLoft$Barrel" "acid" "D", Cond.methodLink RL 39 yX2_tasteOf, Cond.instanceMethod yX2_tasteOf, Cond.selects RX2 yX2_tasteOf yX2_tasteOf, Cond.code yX2_tasteOf cX2_tasteOf 2 (some .double), Cond.methodLink RX2 112 yX0_taste, Cond.instanceMethod yX0_taste, Cond.selects RX0 yX0_taste yX0_taste]
def wsL_isPoured_r3 : List Cond := [Cond.code yX0_taste cX0_taste 5 (some .double), Cond.constantDouble RX0 65 (4618441417868443648), Cond.constantDouble RX0 67 (4602678819172646912), Cond.constantDouble RX0 59 (4605380978949069210), Cond.constantDouble RX0 69 (4613937818241073152), Cond.methodLink RX0 44 yX0_isEmpty, Cond.instanceMethod yX0_isEmpty, Cond.selects RX0 yX0_isEmpty yX0_isEmpty, Cond.code yX0_isEmpty cX0_isEmpty 1 (some .boolean), Cond.methodLink RL 45 yL_isNear, Cond.static yL_isNear, Cond.code yL_isNear cL_isNear 8 (some .boolean), Cond.constantDouble RL 8 (4517329193108106637)]
def wsL_isPoured : List Cond := .code yL_isPoured cL_isPoured 6 (some .boolean) :: ((wsL_isPoured_r1 ++ (wsL_isPoured_r2 ++ wsL_isPoured_r3)) ++ wsX20 ++ wsX10 ++ wsX00 ++ (vx_atS RX2 137 "java/lang/IndexOutOfBoundsException" ["java/lang/RuntimeException", "java/lang/Exception"]).filter goodWord)
def wsL_isAsked_r1 : List Cond := [Cond.constantDouble RL 90 (4651998512748167168), Cond.constantDouble RL 8 (4517329193108106637), Cond.methodLink RL 23 yL_litres, Cond.static yL_litres, Cond.initialized RL, Cond.code yL_litres cL_litres 4 (some .double), Cond.methodLink RL 10 yX2_barrels, Cond.instanceMethod yX2_barrels, Cond.selects RX2 yX2_barrels yX2_barrels, Cond.initialized RX2, Cond.code yX2_barrels cX2_barrels 1 (some .int), Cond.fieldLink RX2 10 "VinegarLoft" "row" "LVinegarLoft$Row;", Cond.fieldLink RX2 100 "VinegarLoft$Row" "count" "I", Cond.methodLink RL 16 yX2_litresIn, Cond.instanceMethod yX2_litresIn, Cond.selects RX2 yX2_litresIn yX2_litresIn, Cond.code yX2_litresIn cX2_litresIn 2 (some .double), Cond.fieldLink RX2 86 "VinegarLoft$Barrel" "litres" "D", Cond.methodLink RX2 82 yX2_barrelNumbered, Cond.instanceMethod yX2_barrelNumbered, Cond.selects RX2 yX2_barrelNumbered yX2_barrelNumbered, Cond.code yX2_barrelNumbered cX2_barrelNumbered 2 (some (.object "VinegarLoft$Barrel")), Cond.classLink RX2 133 "java/lang/IndexOutOfBoundsException", Cond.initialized "java/lang/IndexOutOfBoundsException"]
def wsL_isAsked_r2 : List Cond := [Cond.fieldLink RX2 138 "VinegarLoft$Row" "line" "[LVinegarLoft$Barrel;", Cond.methodLink RL 32 yX2_meanAge, Cond.instanceMethod yX2_meanAge, Cond.selects RX2 yX2_meanAge yX2_meanAge, Cond.code yX2_meanAge cX2_meanAge 3 (some .double), Cond.methodLink RX2 120 yX1_allLitres, Cond.instanceMethod yX1_allLitres, Cond.selects RX1 yX1_allLitres yX1_allLitres, Cond.initialized RX1, Cond.code yX1_allLitres cX1_allLitres 4 (some .double), Cond.fieldLink RX1 18 "VinegarLoft$Row" "count" "I", Cond.fieldLink RX1 11 "VinegarLoft$Row" "line" "[LVinegarLoft$Barrel;", Cond.fieldLink RX1 49 "VinegarLoft$Barrel" "litres" "D", Cond.methodLink RX2 123 yX1_litresTimesAge, Cond.instanceMethod yX1_litresTimesAge, Cond.selects RX1 yX1_litresTimesAge yX1_litresTimesAge, Cond.code yX1_litresTimesAge cX1_litresTimesAge 4 (some .double), Cond.fieldLink RX1 66 "VinegarLoft$Barrel" "age" "D", Cond.methodLink RL 70 yX2_drawable, Cond.instanceMethod yX2_drawable, Cond.selects RX2 yX2_drawable yX2_drawable, Cond.code yX2_drawable cX2_drawable 1 (some .int), Cond.methodLink RX2 68 yX1_bottlesReady, Cond.instanceMethod yX1_bottlesReady]
def wsL_isAsked_r3 : List Cond := [Cond.selects RX1 yX1_bottlesReady yX1_bottlesReady, Cond.code yX1_bottlesReady cX1_bottlesReady 5 (some .int), Cond.fieldLink RX1 25 "VinegarLoft$Row" "drawnFrom" "I", Cond.constantDouble RX1 100 (4622945017495814144), Cond.fieldLink RX1 72 "VinegarLoft$Barrel" "sugar" "D", Cond.constantDouble RX1 102 (4627730092099895296), Cond.fieldLink RX1 28 "VinegarLoft$Row" "mayBeDrawn" "D", Cond.constantDouble RX1 104 (4591870180066957722), Cond.methodLink RX1 90 yX1_eldest, Cond.instanceMethod yX1_eldest, Cond.selects RX1 yX1_eldest yX1_eldest, Cond.code yX1_eldest cX1_eldest 5 (some .int), Cond.methodLink RX1 83 yX0_isEmpty, Cond.instanceMethod yX0_isEmpty, Cond.selects RX0 yX0_isEmpty yX0_isEmpty, Cond.initialized RX0, Cond.code yX0_isEmpty cX0_isEmpty 1 (some .boolean), Cond.fieldLink RX0 16 "VinegarLoft$Barrel" "litres" "D", Cond.methodLink RL 52 yX2_ageOf, Cond.instanceMethod yX2_ageOf, Cond.selects RX2 yX2_ageOf yX2_ageOf, Cond.code yX2_ageOf cX2_ageOf 2 (some .double), Cond.fieldLink RX2 103 "VinegarLoft$Barrel" "age" "D", Cond.methodLink RL 92 yX2_firstBottleIn]
def wsL_isAsked_r4 : List Cond := [Cond.instanceMethod yX2_firstBottleIn, Cond.selects RX2 yX2_firstBottleIn yX2_firstBottleIn, Cond.code yX2_firstBottleIn cX2_firstBottleIn 2 (some .int), Cond.fieldLink RX2 16 "VinegarLoft" "trial" "LVinegarLoft$Row;", Cond.methodLink RX2 129 yX1_copyFrom, Cond.instanceMethod yX1_copyFrom, Cond.selects RX1 yX1_copyFrom yX1_copyFrom, Cond.code yX1_copyFrom cX1_copyFrom 3 none, Cond.fieldLink RX1 22 "VinegarLoft$Row" "warmth" "I", Cond.methodLink RX1 32 yX0_copyFrom, Cond.instanceMethod yX0_copyFrom, Cond.selects RX0 yX0_copyFrom yX0_copyFrom, Cond.code yX0_copyFrom cX0_copyFrom 2 none, Cond.fieldLink RX0 7 "VinegarLoft$Barrel" "wood" "I", Cond.fieldLink RX0 13 "VinegarLoft$Barrel" "size" "I", Cond.fieldLink RX0 20 "VinegarLoft$Barrel" "age" "D", Cond.fieldLink RX0 23 "VinegarLoft$Barrel" "acid" "D", Cond.fieldLink RX0 26 "VinegarLoft$Barrel" "sugar" "D", Cond.methodLink RX2 55 yX1_pourMust, Cond.instanceMethod yX1_pourMust, Cond.selects RX1 yX1_pourMust yX1_pourMust, Cond.code yX1_pourMust cX1_pourMust 7 (some .double), Cond.fieldLink RX1 36 "VinegarLoft$Barrel" "size" "I", Cond.constantDouble RX1 52 (4629137466983448576)]
def wsL_isAsked_r5 : List Cond := [Cond.methodLink RX1 54 yX0_mixIn, Cond.instanceMethod yX0_mixIn, Cond.selects RX0 yX0_mixIn yX0_mixIn, Cond.code yX0_mixIn cX0_mixIn 9 none, Cond.methodLink RX0 29 yX0_mixed, Cond.static yX0_mixed, Cond.code yX0_mixed cX0_mixed 10 (some .double), Cond.methodLink RX2 59 yX1_passDown, Cond.instanceMethod yX1_passDown, Cond.selects RX1 yX1_passDown yX1_passDown, Cond.code yX1_passDown cX1_passDown 4 (some .double), Cond.methodLink RX1 58 yX1_passBetween, Cond.static yX1_passBetween, Cond.code yX1_passBetween cX1_passBetween 8 (some .double), Cond.constantDouble RX1 62 (4606281698874543309), Cond.constantDouble RX1 64 (4602678819172646912), Cond.fieldLink RX1 69 "VinegarLoft$Barrel" "acid" "D", Cond.methodLink RX1 75 yX0_takeOut, Cond.instanceMethod yX0_takeOut, Cond.selects RX0 yX0_takeOut yX0_takeOut, Cond.code yX0_takeOut cX0_takeOut 3 none, Cond.methodLink RX0 33 yX0_clear, Cond.instanceMethod yX0_clear, Cond.selects RX0 yX0_clear yX0_clear]
def wsL_isAsked_r6 : List Cond := [Cond.code yX0_clear cX0_clear 1 none, Cond.methodLink RX2 63 yX1_ageAll, Cond.instanceMethod yX1_ageAll, Cond.selects RX1 yX1_ageAll yX1_ageAll, Cond.code yX1_ageAll cX1_ageAll 6 (some .double), Cond.constantDouble RX1 94 (4598175219545276416), Cond.methodLink RX1 79 yX1_draughtNow, Cond.instanceMethod yX1_draughtNow, Cond.selects RX1 yX1_draughtNow yX1_draughtNow, Cond.code yX1_draughtNow cX1_draughtNow 3 (some .double), Cond.constantDouble RX1 96 (4587366580439587226), Cond.constantDouble RX1 98 (4596373779694328218), Cond.methodLink RX1 86 yX0_spendYear, Cond.instanceMethod yX0_spendYear, Cond.selects RX0 yX0_spendYear yX0_spendYear, Cond.code yX0_spendYear cX0_spendYear 9 (some .double), Cond.constantDouble RX0 48 (4634626229029306368), Cond.methodLink RX0 36 yX0_share, Cond.static yX0_share, Cond.code yX0_share cX0_share 1 (some .double), Cond.constantDouble RX0 71 (4581421828931458171), Cond.constantDouble RX0 73 (4584304132692975288), Cond.constantDouble RX0 75 (4585204852618449388), Cond.constantDouble RX0 77 (4582862980812216730)]
def wsL_isAsked_r7 : List Cond := [Cond.methodLink RX0 40 yX0_takeOut, Cond.methodLink RX0 44 yX0_isEmpty, Cond.methodLink RX0 50 yX0_sour, Cond.instanceMethod yX0_sour, Cond.selects RX0 yX0_sour yX0_sour, Cond.code yX0_sour cX0_sour 3 none, Cond.constantDouble RX0 53 (4626322717216342016), Cond.constantDouble RX0 55 (4620693217682128896), Cond.constantDouble RX0 57 (4603579539098121011), Cond.constantDouble RX0 59 (4605380978949069210), Cond.constantDouble RX0 61 (4591870180066957722), Cond.constantDouble RX0 63 (4622945017495814144), Cond.methodLink RL 49 yX2_oldest, Cond.instanceMethod yX2_oldest, Cond.selects RX2 yX2_oldest yX2_oldest, Cond.code yX2_oldest cX2_oldest 1 (some .int), Cond.methodLink RX2 115 yX1_eldest]
def wsL_isAsked : List Cond := .code yL_isAsked cL_isAsked 14 (some .boolean) :: ((wsL_isAsked_r1 ++ (wsL_isAsked_r2 ++ (wsL_isAsked_r3 ++ (wsL_isAsked_r4 ++ (wsL_isAsked_r5 ++ (wsL_isAsked_r6 ++ wsL_isAsked_r7)))))) ++ wsX20 ++ wsX10 ++ wsX00 ++ (vx_atS RX2 137 "java/lang/IndexOutOfBoundsException" ["java/lang/RuntimeException", "java/lang/Exception"]).filter goodWord)
def wsL_law0_r1 : List Cond := [Cond.classLink RL 11 RX2, Cond.instantiable RX2 4, Cond.initialized RX2, Cond.methodLink RL 95 yX2_init, Cond.instanceMethod yX2_init, Cond.code yX2_init cX2_init 1 none, Cond.methodLink RX2 1 objectInit, Cond.instanceMethod objectInit, Cond.code objectInit ⟨#[0xb1]⟩ 1 none, Cond.classLink RX2 7 RX1, Cond.instantiable RX1 5, Cond.initialized RX1, Cond.fieldLink RX2 10 "VinegarLoft" "row" "LVinegarLoft$Row;", Cond.fieldLink RX2 16 "VinegarLoft" "trial" "LVinegarLoft$Row;", Cond.arrayClass .int, Cond.fieldLink RX2 19 "VinegarLoft" "drawnByKind" "[I", Cond.fieldLink RX2 23 "VinegarLoft" "yearsGone" "I", Cond.methodLink RX2 9 yX1_init, Cond.instanceMethod yX1_init, Cond.code yX1_init cX1_init 2 none, Cond.methodLink RX1 3 objectInit, Cond.classLink RX1 9 RX0, Cond.fieldLink RX1 11 "VinegarLoft$Row" "line" "[LVinegarLoft$Barrel;", Cond.instantiable RX0 6]
def wsL_law0_r2 : List Cond := [Cond.initialized RX0, Cond.fieldLink RX1 18 "VinegarLoft$Row" "count" "I", Cond.fieldLink RX1 22 "VinegarLoft$Row" "warmth" "I", Cond.fieldLink RX1 25 "VinegarLoft$Row" "drawnFrom" "I", Cond.fieldLink RX1 28 "VinegarLoft$Row" "mayBeDrawn" "D", Cond.instanceMethod yX0_init, Cond.code yX0_init cX0_init 1 none, Cond.methodLink RX0 1 objectInit, Cond.methodLink RL 96 yL_drawn, Cond.static yL_drawn, Cond.initialized RL, Cond.code yL_drawn cL_drawn 4 (some .int), Cond.constant RL 7 (46337), Cond.methodLink RL 100 yX2_add, Cond.instanceMethod yX2_add, Cond.selects RX2 yX2_add yX2_add, Cond.code yX2_add cX2_add 3 (some .int), Cond.classLink RX2 27 "java/lang/IllegalArgumentException", Cond.initialized "java/lang/IllegalArgumentException", Cond.classLink RX2 44 "java/lang/IllegalStateException", Cond.initialized "java/lang/IllegalStateException", Cond.methodLink RX2 34 yX1_largestNext, Cond.instanceMethod yX1_largestNext, Cond.selects RX1 yX1_largestNext yX1_largestNext]
def wsL_law0_r3 : List Cond := [Cond.code yX1_largestNext cX1_largestNext 1 (some .int), Cond.fieldLink RX1 36 "VinegarLoft$Barrel" "size" "I", Cond.methodLink RX2 40 yX1_isComplete, Cond.instanceMethod yX1_isComplete, Cond.selects RX1 yX1_isComplete yX1_isComplete, Cond.code yX1_isComplete cX1_isComplete 1 (some .boolean), Cond.methodLink RX2 49 yX1_putBehind, Cond.instanceMethod yX1_putBehind, Cond.selects RX1 yX1_putBehind yX1_putBehind, Cond.code yX1_putBehind cX1_putBehind 4 (some .int), Cond.fieldLink RX1 43 "VinegarLoft$Barrel" "wood" "I", Cond.methodLink RX1 39 yX1_isComplete, Cond.methodLink RX1 46 yX0_clear, Cond.instanceMethod yX0_clear, Cond.selects RX0 yX0_clear yX0_clear, Cond.code yX0_clear cX0_clear 1 none, Cond.fieldLink RX0 16 "VinegarLoft$Barrel" "litres" "D", Cond.fieldLink RX0 20 "VinegarLoft$Barrel" "age" "D", Cond.fieldLink RX0 23 "VinegarLoft$Barrel" "acid" "D", Cond.fieldLink RX0 26 "VinegarLoft$Barrel" "sugar" "D", Cond.methodLink RL 104 yL_isFilled, Cond.static yL_isFilled, Cond.code yL_isFilled cL_isFilled 9 (some .boolean), Cond.constantDouble RL 8 (4517329193108106637)]
def wsL_law0_r4 : List Cond := [Cond.methodLink RL 23 yL_litres, Cond.static yL_litres, Cond.code yL_litres cL_litres 4 (some .double), Cond.methodLink RL 10 yX2_barrels, Cond.instanceMethod yX2_barrels, Cond.selects RX2 yX2_barrels yX2_barrels, Cond.code yX2_barrels cX2_barrels 1 (some .int), Cond.fieldLink RX2 100 "VinegarLoft$Row" "count" "I", Cond.methodLink RL 16 yX2_litresIn, Cond.instanceMethod yX2_litresIn, Cond.selects RX2 yX2_litresIn yX2_litresIn, Cond.code yX2_litresIn cX2_litresIn 2 (some .double), Cond.fieldLink RX2 86 "VinegarLoft$Barrel" "litres" "D", Cond.methodLink RX2 82 yX2_barrelNumbered, Cond.instanceMethod yX2_barrelNumbered, Cond.selects RX2 yX2_barrelNumbered yX2_barrelNumbered, Cond.code yX2_barrelNumbered cX2_barrelNumbered 2 (some (.object "VinegarLoft$Barrel")), Cond.classLink RX2 133 "java/lang/IndexOutOfBoundsException", Cond.initialized "java/lang/IndexOutOfBoundsException", Cond.fieldLink RX2 138 "VinegarLoft$Row" "line" "[LVinegarLoft$Barrel;", Cond.methodLink RL 75 yX2_fill, Cond.instanceMethod yX2_fill, Cond.selects RX2 yX2_fill yX2_fill, Cond.code yX2_fill cX2_fill 2 (some .double)]
def wsL_law0_r5 : List Cond := [Cond.methodLink RX2 55 yX1_pourMust, Cond.instanceMethod yX1_pourMust, Cond.selects RX1 yX1_pourMust yX1_pourMust, Cond.code yX1_pourMust cX1_pourMust 7 (some .double), Cond.fieldLink RX1 49 "VinegarLoft$Barrel" "litres" "D", Cond.constantDouble RX1 52 (4629137466983448576), Cond.methodLink RX1 54 yX0_mixIn, Cond.instanceMethod yX0_mixIn, Cond.selects RX0 yX0_mixIn yX0_mixIn, Cond.code yX0_mixIn cX0_mixIn 9 none, Cond.methodLink RX0 29 yX0_mixed, Cond.static yX0_mixed, Cond.code yX0_mixed cX0_mixed 10 (some .double), Cond.methodLink RL 45 yL_isNear, Cond.static yL_isNear, Cond.code yL_isNear cL_isNear 8 (some .boolean), Cond.methodLink RL 70 yX2_drawable, Cond.instanceMethod yX2_drawable, Cond.selects RX2 yX2_drawable yX2_drawable, Cond.code yX2_drawable cX2_drawable 1 (some .int), Cond.methodLink RX2 68 yX1_bottlesReady, Cond.instanceMethod yX1_bottlesReady, Cond.selects RX1 yX1_bottlesReady yX1_bottlesReady, Cond.code yX1_bottlesReady cX1_bottlesReady 5 (some .int)]
def wsL_law0_r6 : List Cond := [Cond.fieldLink RX1 66 "VinegarLoft$Barrel" "age" "D", Cond.constantDouble RX1 100 (4622945017495814144), Cond.fieldLink RX1 72 "VinegarLoft$Barrel" "sugar" "D", Cond.constantDouble RX1 102 (4627730092099895296), Cond.constantDouble RX1 104 (4591870180066957722), Cond.methodLink RX1 90 yX1_eldest, Cond.instanceMethod yX1_eldest, Cond.selects RX1 yX1_eldest yX1_eldest, Cond.code yX1_eldest cX1_eldest 5 (some .int), Cond.methodLink RX1 83 yX0_isEmpty, Cond.instanceMethod yX0_isEmpty, Cond.selects RX0 yX0_isEmpty yX0_isEmpty, Cond.code yX0_isEmpty cX0_isEmpty 1 (some .boolean), Cond.methodLink RL 108 yL_isMoved, Cond.static yL_isMoved, Cond.code yL_isMoved cL_isMoved 16 (some .boolean), Cond.methodLink RL 29 yL_acid, Cond.static yL_acid, Cond.code yL_acid cL_acid 4 (some .double), Cond.methodLink RL 20 yX2_acidOf, Cond.instanceMethod yX2_acidOf, Cond.selects RX2 yX2_acidOf yX2_acidOf, Cond.code yX2_acidOf cX2_acidOf 2 (some .double), Cond.fieldLink RX2 106 "VinegarLoft$Barrel" "acid" "D"]
def wsL_law0_r7 : List Cond := [Cond.methodLink RL 32 yX2_meanAge, Cond.instanceMethod yX2_meanAge, Cond.selects RX2 yX2_meanAge yX2_meanAge, Cond.code yX2_meanAge cX2_meanAge 3 (some .double), Cond.methodLink RX2 120 yX1_allLitres, Cond.instanceMethod yX1_allLitres, Cond.selects RX1 yX1_allLitres yX1_allLitres, Cond.code yX1_allLitres cX1_allLitres 4 (some .double), Cond.methodLink RX2 123 yX1_litresTimesAge, Cond.instanceMethod yX1_litresTimesAge, Cond.selects RX1 yX1_litresTimesAge yX1_litresTimesAge, Cond.code yX1_litresTimesAge cX1_litresTimesAge 4 (some .double), Cond.methodLink RL 36 yX2_meanSugar, Cond.instanceMethod yX2_meanSugar, Cond.selects RX2 yX2_meanSugar yX2_meanSugar, Cond.code yX2_meanSugar cX2_meanSugar 3 (some .double), Cond.methodLink RX2 126 yX1_litresTimesSugar, Cond.instanceMethod yX1_litresTimesSugar, Cond.selects RX1 yX1_litresTimesSugar yX1_litresTimesSugar, Cond.code yX1_litresTimesSugar cX1_litresTimesSugar 4 (some .double), Cond.methodLink RL 39 yX2_tasteOf, Cond.instanceMethod yX2_tasteOf, Cond.selects RX2 yX2_tasteOf yX2_tasteOf, Cond.code yX2_tasteOf cX2_tasteOf 2 (some .double)]
def wsL_law0_r8 : List Cond := [Cond.methodLink RX2 112 yX0_taste, Cond.instanceMethod yX0_taste, Cond.selects RX0 yX0_taste yX0_taste, Cond.code yX0_taste cX0_taste 5 (some .double), Cond.constantDouble RX0 65 (4618441417868443648), Cond.constantDouble RX0 67 (4602678819172646912), Cond.constantDouble RX0 59 (4605380978949069210), Cond.constantDouble RX0 69 (4613937818241073152), Cond.methodLink RX0 44 yX0_isEmpty, Cond.methodLink RL 42 yX2_topUp, Cond.instanceMethod yX2_topUp, Cond.selects RX2 yX2_topUp yX2_topUp, Cond.code yX2_topUp cX2_topUp 1 (some .double), Cond.methodLink RX2 59 yX1_passDown, Cond.instanceMethod yX1_passDown, Cond.selects RX1 yX1_passDown yX1_passDown, Cond.code yX1_passDown cX1_passDown 4 (some .double), Cond.methodLink RX1 58 yX1_passBetween, Cond.static yX1_passBetween, Cond.code yX1_passBetween cX1_passBetween 8 (some .double), Cond.constantDouble RX1 62 (4606281698874543309), Cond.constantDouble RX1 64 (4602678819172646912), Cond.fieldLink RX1 69 "VinegarLoft$Barrel" "acid" "D", Cond.methodLink RX1 75 yX0_takeOut]
def wsL_law0_r9 : List Cond := [Cond.instanceMethod yX0_takeOut, Cond.selects RX0 yX0_takeOut yX0_takeOut, Cond.code yX0_takeOut cX0_takeOut 3 none, Cond.methodLink RX0 33 yX0_clear, Cond.methodLink RL 112 yL_isAged, Cond.static yL_isAged, Cond.code yL_isAged cL_isAged 13 (some .boolean), Cond.arrayClass .double, Cond.constantDouble RL 61 (4606281698874543309), Cond.constantDouble RL 66 (4634626229029306368), Cond.constantDouble RL 68 (4622945017495814144), Cond.constantDouble RL 73 (4627730092099895296), Cond.methodLink RL 49 yX2_oldest, Cond.instanceMethod yX2_oldest, Cond.selects RX2 yX2_oldest yX2_oldest, Cond.code yX2_oldest cX2_oldest 1 (some .int), Cond.methodLink RX2 115 yX1_eldest, Cond.methodLink RL 52 yX2_ageOf, Cond.instanceMethod yX2_ageOf, Cond.selects RX2 yX2_ageOf yX2_ageOf, Cond.code yX2_ageOf cX2_ageOf 2 (some .double), Cond.fieldLink RX2 103 "VinegarLoft$Barrel" "age" "D", Cond.methodLink RL 55 yX2_years, Cond.instanceMethod yX2_years]
def wsL_law0_r10 : List Cond := [Cond.selects RX2 yX2_years yX2_years, Cond.code yX2_years cX2_years 1 (some .int), Cond.methodLink RL 58 yX2_year, Cond.instanceMethod yX2_year, Cond.selects RX2 yX2_year yX2_year, Cond.code yX2_year cX2_year 1 (some .double), Cond.methodLink RX2 63 yX1_ageAll, Cond.instanceMethod yX1_ageAll, Cond.selects RX1 yX1_ageAll yX1_ageAll, Cond.code yX1_ageAll cX1_ageAll 6 (some .double), Cond.constantDouble RX1 94 (4598175219545276416), Cond.methodLink RX1 79 yX1_draughtNow, Cond.instanceMethod yX1_draughtNow, Cond.selects RX1 yX1_draughtNow yX1_draughtNow, Cond.code yX1_draughtNow cX1_draughtNow 3 (some .double), Cond.constantDouble RX1 96 (4587366580439587226), Cond.constantDouble RX1 98 (4596373779694328218), Cond.methodLink RX1 86 yX0_spendYear, Cond.instanceMethod yX0_spendYear, Cond.selects RX0 yX0_spendYear yX0_spendYear, Cond.code yX0_spendYear cX0_spendYear 9 (some .double), Cond.fieldLink RX0 7 "VinegarLoft$Barrel" "wood" "I", Cond.constantDouble RX0 48 (4634626229029306368), Cond.methodLink RX0 36 yX0_share]
def wsL_law0_r11 : List Cond := [Cond.static yX0_share, Cond.code yX0_share cX0_share 1 (some .double), Cond.constantDouble RX0 71 (4581421828931458171), Cond.constantDouble RX0 73 (4584304132692975288), Cond.constantDouble RX0 75 (4585204852618449388), Cond.constantDouble RX0 77 (4582862980812216730), Cond.methodLink RX0 40 yX0_takeOut, Cond.methodLink RX0 50 yX0_sour, Cond.instanceMethod yX0_sour, Cond.selects RX0 yX0_sour yX0_sour, Cond.code yX0_sour cX0_sour 3 none, Cond.constantDouble RX0 53 (4626322717216342016), Cond.constantDouble RX0 55 (4620693217682128896), Cond.constantDouble RX0 57 (4603579539098121011), Cond.constantDouble RX0 61 (4591870180066957722), Cond.constantDouble RX0 63 (4622945017495814144), Cond.methodLink RL 63 yX2_sugarOf, Cond.instanceMethod yX2_sugarOf, Cond.selects RX2 yX2_sugarOf yX2_sugarOf, Cond.code yX2_sugarOf cX2_sugarOf 2 (some .double), Cond.fieldLink RX2 109 "VinegarLoft$Barrel" "sugar" "D", Cond.methodLink RL 115 yL_isBottled, Cond.static yL_isBottled, Cond.code yL_isBottled cL_isBottled 7 (some .boolean)]
def wsL_law0_r12 : List Cond := [Cond.constantDouble RL 85 (4591870180066957722), Cond.methodLink RL 78 yX2_bottles, Cond.instanceMethod yX2_bottles, Cond.selects RX2 yX2_bottles yX2_bottles, Cond.code yX2_bottles cX2_bottles 2 (some .int), Cond.methodLink RL 82 yX2_draw, Cond.instanceMethod yX2_draw, Cond.selects RX2 yX2_draw yX2_draw, Cond.code yX2_draw cX2_draw 4 (some .int), Cond.methodLink RX2 71 yX1_greatestAge, Cond.instanceMethod yX1_greatestAge, Cond.selects RX1 yX1_greatestAge yX1_greatestAge, Cond.code yX1_greatestAge cX1_greatestAge 2 (some .double), Cond.methodLink RX2 74 yX2_kindAt, Cond.static yX2_kindAt, Cond.code yX2_kindAt cX2_kindAt 2 (some .int), Cond.constantDouble RX2 142 (4625759767262920704), Cond.constantDouble RX2 144 (4627730092099895296), Cond.methodLink RX2 78 yX1_takeBottles, Cond.instanceMethod yX1_takeBottles, Cond.selects RX1 yX1_takeBottles yX1_takeBottles, Cond.code yX1_takeBottles cX1_takeBottles 4 none, Cond.methodLink RL 119 yX2_setWarmth, Cond.instanceMethod yX2_setWarmth]
def wsL_law0_r13 : List Cond := [Cond.selects RX2 yX2_setWarmth yX2_setWarmth, Cond.code yX2_setWarmth cX2_setWarmth 2 none, Cond.fieldLink RX2 97 "VinegarLoft$Row" "warmth" "I", Cond.methodLink RL 123 yL_isPoured, Cond.static yL_isPoured, Cond.code yL_isPoured cL_isPoured 6 (some .boolean), Cond.methodLink RL 87 yX2_pourAway, Cond.instanceMethod yX2_pourAway, Cond.selects RX2 yX2_pourAway yX2_pourAway, Cond.code yX2_pourAway cX2_pourAway 5 (some .double), Cond.methodLink RX2 92 yX0_clear, Cond.methodLink RL 126 yL_isAsked, Cond.static yL_isAsked, Cond.code yL_isAsked cL_isAsked 14 (some .boolean), Cond.constantDouble RL 90 (4651998512748167168), Cond.methodLink RL 92 yX2_firstBottleIn, Cond.instanceMethod yX2_firstBottleIn, Cond.selects RX2 yX2_firstBottleIn yX2_firstBottleIn, Cond.code yX2_firstBottleIn cX2_firstBottleIn 2 (some .int), Cond.methodLink RX2 129 yX1_copyFrom, Cond.instanceMethod yX1_copyFrom, Cond.selects RX1 yX1_copyFrom yX1_copyFrom, Cond.code yX1_copyFrom cX1_copyFrom 3 none, Cond.methodLink RX1 32 yX0_copyFrom]
def wsL_law0_r14 : List Cond := [Cond.instanceMethod yX0_copyFrom, Cond.selects RX0 yX0_copyFrom yX0_copyFrom, Cond.code yX0_copyFrom cX0_copyFrom 2 none, Cond.fieldLink RX0 13 "VinegarLoft$Barrel" "size" "I"]
def wsL_law0 : List Cond := (wsL_law0_r1 ++ (wsL_law0_r2 ++ (wsL_law0_r3 ++ (wsL_law0_r4 ++ (wsL_law0_r5 ++ (wsL_law0_r6 ++ (wsL_law0_r7 ++ (wsL_law0_r8 ++ (wsL_law0_r9 ++ (wsL_law0_r10 ++ (wsL_law0_r11 ++ (wsL_law0_r12 ++ (wsL_law0_r13 ++ wsL_law0_r14))))))))))))) ++ wsX20 ++ wsX10 ++ wsX00 ++ ([] : List Cond)
def wsL_law : List Cond := wsL_law0 ++ (vx_atS RX2 31 "java/lang/IllegalArgumentException" ["java/lang/RuntimeException", "java/lang/Exception"]).filter goodWord ++ (vx_atS RX2 48 "java/lang/IllegalStateException" ["java/lang/RuntimeException", "java/lang/Exception"]).filter goodWord ++ (vx_atS RX2 137 "java/lang/IndexOutOfBoundsException" ["java/lang/RuntimeException", "java/lang/Exception"]).filter goodWord
end
section
set_option maxRecDepth 20000 in
theorem wsL_in_r1 : ∀ w ∈ wsL_law0_r1, w ∈ lw_tbl := fun w h => (goodIn_p wsL_law0_r1 [18, 21, 26] (by decide +kernel) (by decide +kernel) w h).1
set_option maxRecDepth 20000 in
theorem wsL_in_r2 : ∀ w ∈ wsL_law0_r2, w ∈ lw_tbl := fun w h => (goodIn_p wsL_law0_r2 [33, 210, 100] (by decide +kernel) (by decide +kernel) w h).1
set_option maxRecDepth 20000 in
theorem wsL_in_r3 : ∀ w ∈ wsL_law0_r3, w ∈ lw_tbl := fun w h => (goodIn_p wsL_law0_r3 [172, 177, 197, 202, 398] (by decide +kernel) (by decide +kernel) w h).1
set_option maxRecDepth 20000 in
theorem wsL_in_r4 : ∀ w ∈ wsL_law0_r4, w ∈ lw_tbl := fun w h => (goodIn_p wsL_law0_r4 [217, 221, 225, 229, 402] (by decide +kernel) (by decide +kernel) w h).1
set_option maxRecDepth 20000 in
theorem wsL_in_r5 : ∀ w ∈ wsL_law0_r5, w ∈ lw_tbl := fun w h => (goodIn_p wsL_law0_r5 [407, 305, 308, 316, 386, 390] (by decide +kernel) (by decide +kernel) w h).1
set_option maxRecDepth 20000 in
theorem wsL_in_r6 : ∀ w ∈ wsL_law0_r6, w ∈ lw_tbl := fun w h => (goodIn_p wsL_law0_r6 [328, 284, 214, 248, 252] (by decide +kernel) (by decide +kernel) w h).1
set_option maxRecDepth 20000 in
theorem wsL_in_r7 : ∀ w ∈ wsL_law0_r7, w ∈ lw_tbl := fun w h => (goodIn_p wsL_law0_r7 [256, 260, 264, 268, 272, 276] (by decide +kernel) (by decide +kernel) w h).1
set_option maxRecDepth 20000 in
theorem wsL_in_r8 : ∀ w ∈ wsL_law0_r8, w ∈ lw_tbl := fun w h => (goodIn_p wsL_law0_r8 [280, 292, 296, 299] (by decide +kernel) (by decide +kernel) w h).1
end
section
set_option maxRecDepth 20000 in
theorem wsL_in_r9 : ∀ w ∈ wsL_law0_r9, w ∈ lw_tbl := fun w h => (goodIn_p wsL_law0_r9 [312, 320, 324, 333] (by decide +kernel) (by decide +kernel) w h).1
set_option maxRecDepth 20000 in
theorem wsL_in_r10 : ∀ w ∈ wsL_law0_r10, w ∈ lw_tbl := fun w h => (goodIn_p wsL_law0_r10 [337, 341, 345, 349, 355] (by decide +kernel) (by decide +kernel) w h).1
set_option maxRecDepth 20000 in
theorem wsL_in_r11 : ∀ w ∈ wsL_law0_r11, w ∈ lw_tbl := fun w h => (goodIn_p wsL_law0_r11 [358, 368, 380, 411] (by decide +kernel) (by decide +kernel) w h).1
set_option maxRecDepth 20000 in
theorem wsL_in_r12 : ∀ w ∈ wsL_law0_r12, w ∈ lw_tbl := fun w h => (goodIn_p wsL_law0_r12 [415, 420, 425, 428, 434] (by decide +kernel) (by decide +kernel) w h).1
set_option maxRecDepth 20000 in
theorem wsL_in_r13 : ∀ w ∈ wsL_law0_r13, w ∈ lw_tbl := fun w h => (goodIn_p wsL_law0_r13 [206, 438, 442, 446, 451, 455] (by decide +kernel) (by decide +kernel) w h).1
set_option maxRecDepth 20000 in
theorem wsL_in_r14 : ∀ w ∈ wsL_law0_r14, w ∈ lw_tbl := fun w h => (goodIn_p wsL_law0_r14 [459] (by decide +kernel) (by decide +kernel) w h).1
end
section
set_option maxRecDepth 20000 in
theorem wsL_in_wsX20 : ∀ w ∈ wsX20, w ∈ lw_tbl := by decide +kernel
set_option maxRecDepth 20000 in
theorem wsL_in_wsX10 : ∀ w ∈ wsX10, w ∈ lw_tbl := by decide +kernel
set_option maxRecDepth 20000 in
theorem wsL_in_wsX00 : ∀ w ∈ wsX00, w ∈ lw_tbl := by decide +kernel
theorem wsL_law_in0 : ∀ w ∈ wsL_law0, w ∈ lw_tbl := List.forall_mem_append.mpr ⟨List.forall_mem_append.mpr ⟨List.forall_mem_append.mpr ⟨List.forall_mem_append.mpr ⟨List.forall_mem_append.mpr ⟨wsL_in_r1, List.forall_mem_append.mpr ⟨wsL_in_r2, List.forall_mem_append.mpr ⟨wsL_in_r3, List.forall_mem_append.mpr ⟨wsL_in_r4, List.forall_mem_append.mpr ⟨wsL_in_r5, List.forall_mem_append.mpr ⟨wsL_in_r6, List.forall_mem_append.mpr ⟨wsL_in_r7, List.forall_mem_append.mpr ⟨wsL_in_r8, List.forall_mem_append.mpr ⟨wsL_in_r9, List.forall_mem_append.mpr ⟨wsL_in_r10, List.forall_mem_append.mpr ⟨wsL_in_r11, List.forall_mem_append.mpr ⟨wsL_in_r12, List.forall_mem_append.mpr ⟨wsL_in_r13, wsL_in_r14⟩⟩⟩⟩⟩⟩⟩⟩⟩⟩⟩⟩⟩, wsL_in_wsX20⟩, wsL_in_wsX10⟩, wsL_in_wsX00⟩, fun _ h => absurd h List.not_mem_nil⟩
theorem wsL_law_x0 : ∀ w ∈ (vx_atS RX2 31 "java/lang/IllegalArgumentException" ["java/lang/RuntimeException", "java/lang/Exception"]).filter goodWord, w ∈ lw_tbl := by decide +kernel
theorem wsL_law_x1 : ∀ w ∈ (vx_atS RX2 48 "java/lang/IllegalStateException" ["java/lang/RuntimeException", "java/lang/Exception"]).filter goodWord, w ∈ lw_tbl := by decide +kernel
theorem wsL_law_x2 : ∀ w ∈ (vx_atS RX2 137 "java/lang/IndexOutOfBoundsException" ["java/lang/RuntimeException", "java/lang/Exception"]).filter goodWord, w ∈ lw_tbl := by decide +kernel
theorem wsL_law_in : ∀ w ∈ wsL_law, w ∈ lw_tbl := fun w h => (List.mem_append.mp h).elim (fun h => (List.mem_append.mp h).elim (fun h => (List.mem_append.mp h).elim (fun h => wsL_law_in0 w h) (fun h => wsL_law_x0 w h)) (fun h => wsL_law_x1 w h)) (fun h => wsL_law_x2 w h)
theorem inlX0 : ∀ w ∈ wsX00, w ∈ wsL_law := fun _ h => List.mem_append_left _ (List.mem_append_left _ (List.mem_append_left _ (List.mem_append_left _ (List.mem_append_right _ h))))
theorem inX0 : ∀ w ∈ wsX00, w ∈ lw_tbl := fun w h => wsL_law_in w (inlX0 w h)
theorem inlX1 : ∀ w ∈ wsX10, w ∈ wsL_law := fun _ h => List.mem_append_left _ (List.mem_append_left _ (List.mem_append_left _ (List.mem_append_left _ (List.mem_append_left _ (List.mem_append_right _ h)))))
theorem inX1 : ∀ w ∈ wsX10, w ∈ lw_tbl := fun w h => wsL_law_in w (inlX1 w h)
theorem inlX2 : ∀ w ∈ wsX20, w ∈ wsL_law := fun _ h => List.mem_append_left _ (List.mem_append_left _ (List.mem_append_left _ (List.mem_append_left _ (List.mem_append_left _ (List.mem_append_left _ (List.mem_append_right _ h))))))
theorem inX2 : ∀ w ∈ wsX20, w ∈ lw_tbl := fun w h => wsL_law_in w (inlX2 w h)
theorem inX3 : ∀ w ∈ wsX30, w ∈ lw_tbl := by decide +kernel
end
section
theorem inJ0 : ∀ w ∈ wsJ00, w ∈ lw_tbl := by decide +kernel
theorem dX0_init_0 : decode cX0_init 0 = .ok (.aload_n 0, 1) := by decide +kernel
theorem dX0_init_1 : decode cX0_init 1 = .ok (.invokespecial 1, 3) := by decide +kernel
theorem dX0_init_4 : decode cX0_init 4 = .ok (.return_, 1) := by decide +kernel
theorem dX0_copyFrom_0 : decode cX0_copyFrom 0 = .ok (.aload_n 0, 1) := by decide +kernel
theorem dX0_copyFrom_1 : decode cX0_copyFrom 1 = .ok (.aload_n 1, 1) := by decide +kernel
theorem dX0_copyFrom_2 : decode cX0_copyFrom 2 = .ok (.getfield 7, 3) := by decide +kernel
theorem dX0_copyFrom_5 : decode cX0_copyFrom 5 = .ok (.putfield 7, 3) := by decide +kernel
theorem dX0_copyFrom_8 : decode cX0_copyFrom 8 = .ok (.aload_n 0, 1) := by decide +kernel
theorem dX0_copyFrom_9 : decode cX0_copyFrom 9 = .ok (.aload_n 1, 1) := by decide +kernel
theorem dX0_copyFrom_10 : decode cX0_copyFrom 10 = .ok (.getfield 13, 3) := by decide +kernel
theorem dX0_copyFrom_13 : decode cX0_copyFrom 13 = .ok (.putfield 13, 3) := by decide +kernel
theorem dX0_copyFrom_16 : decode cX0_copyFrom 16 = .ok (.aload_n 0, 1) := by decide +kernel
theorem dX0_copyFrom_17 : decode cX0_copyFrom 17 = .ok (.aload_n 1, 1) := by decide +kernel
theorem dX0_copyFrom_18 : decode cX0_copyFrom 18 = .ok (.getfield 16, 3) := by decide +kernel
theorem dX0_copyFrom_21 : decode cX0_copyFrom 21 = .ok (.putfield 16, 3) := by decide +kernel
theorem dX0_copyFrom_24 : decode cX0_copyFrom 24 = .ok (.aload_n 0, 1) := by decide +kernel
theorem dX0_copyFrom_25 : decode cX0_copyFrom 25 = .ok (.aload_n 1, 1) := by decide +kernel
theorem dX0_copyFrom_26 : decode cX0_copyFrom 26 = .ok (.getfield 20, 3) := by decide +kernel
theorem dX0_copyFrom_29 : decode cX0_copyFrom 29 = .ok (.putfield 20, 3) := by decide +kernel
theorem dX0_copyFrom_32 : decode cX0_copyFrom 32 = .ok (.aload_n 0, 1) := by decide +kernel
theorem dX0_copyFrom_33 : decode cX0_copyFrom 33 = .ok (.aload_n 1, 1) := by decide +kernel
theorem dX0_copyFrom_34 : decode cX0_copyFrom 34 = .ok (.getfield 23, 3) := by decide +kernel
theorem dX0_copyFrom_37 : decode cX0_copyFrom 37 = .ok (.putfield 23, 3) := by decide +kernel
theorem dX0_copyFrom_40 : decode cX0_copyFrom 40 = .ok (.aload_n 0, 1) := by decide +kernel
theorem dX0_copyFrom_41 : decode cX0_copyFrom 41 = .ok (.aload_n 1, 1) := by decide +kernel
theorem dX0_copyFrom_42 : decode cX0_copyFrom 42 = .ok (.getfield 26, 3) := by decide +kernel
theorem dX0_copyFrom_45 : decode cX0_copyFrom 45 = .ok (.putfield 26, 3) := by decide +kernel
theorem dX0_copyFrom_48 : decode cX0_copyFrom 48 = .ok (.return_, 1) := by decide +kernel
theorem dX0_isEmpty_0 : decode cX0_isEmpty 0 = .ok (.aload_n 0, 1) := by decide +kernel
theorem dX0_isEmpty_1 : decode cX0_isEmpty 1 = .ok (.getfield 16, 3) := by decide +kernel
theorem dX0_isEmpty_4 : decode cX0_isEmpty 4 = .ok (.dconst 0, 1) := by decide +kernel
theorem dX0_isEmpty_5 : decode cX0_isEmpty 5 = .ok (.dcmp .g, 1) := by decide +kernel
theorem dX0_isEmpty_6 : decode cX0_isEmpty 6 = .ok (.ifCond .gt 7, 3) := by decide +kernel
theorem dX0_isEmpty_9 : decode cX0_isEmpty 9 = .ok (.iconst 1, 1) := by decide +kernel
theorem dX0_isEmpty_10 : decode cX0_isEmpty 10 = .ok (.goto 4, 3) := by decide +kernel
theorem dX0_isEmpty_13 : decode cX0_isEmpty 13 = .ok (.iconst 0, 1) := by decide +kernel
theorem dX0_isEmpty_14 : decode cX0_isEmpty 14 = .ok (.ireturn, 1) := by decide +kernel
theorem dX0_clear_0 : decode cX0_clear 0 = .ok (.aload_n 0, 1) := by decide +kernel
theorem dX0_clear_1 : decode cX0_clear 1 = .ok (.dconst 0, 1) := by decide +kernel
theorem dX0_clear_2 : decode cX0_clear 2 = .ok (.putfield 16, 3) := by decide +kernel
theorem dX0_clear_5 : decode cX0_clear 5 = .ok (.aload_n 0, 1) := by decide +kernel
theorem dX0_clear_6 : decode cX0_clear 6 = .ok (.dconst 0, 1) := by decide +kernel
theorem dX0_clear_7 : decode cX0_clear 7 = .ok (.putfield 20, 3) := by decide +kernel
theorem dX0_clear_10 : decode cX0_clear 10 = .ok (.aload_n 0, 1) := by decide +kernel
theorem dX0_clear_11 : decode cX0_clear 11 = .ok (.dconst 0, 1) := by decide +kernel
theorem dX0_clear_12 : decode cX0_clear 12 = .ok (.putfield 23, 3) := by decide +kernel
theorem dX0_clear_15 : decode cX0_clear 15 = .ok (.aload_n 0, 1) := by decide +kernel
theorem dX0_clear_16 : decode cX0_clear 16 = .ok (.dconst 0, 1) := by decide +kernel
theorem dX0_clear_17 : decode cX0_clear 17 = .ok (.putfield 26, 3) := by decide +kernel
theorem dX0_clear_20 : decode cX0_clear 20 = .ok (.return_, 1) := by decide +kernel
set_option maxRecDepth 20000 in
theorem ggX0_mixIn_X0_mixed : GoodIn wsX0_mixIn wsX0_mixed := goodIn_r _ [8] (by decide +kernel) (by decide +kernel)
set_option maxRecDepth 20000 in
theorem gX0_mixIn_X0_mixed : GoodIn wsX0_mixIn (va_wsS RX0 29 yX0_mixed wsX0_mixed) := goodIn_app (goodIn_of _ (by decide +kernel)) ggX0_mixIn_X0_mixed
theorem dX0_mixIn_0 : decode cX0_mixIn 0 = .ok (.aload_n 0, 1) := by decide +kernel
theorem dX0_mixIn_1 : decode cX0_mixIn 1 = .ok (.aload_n 0, 1) := by decide +kernel
theorem dX0_mixIn_2 : decode cX0_mixIn 2 = .ok (.getfield 16, 3) := by decide +kernel
theorem dX0_mixIn_5 : decode cX0_mixIn 5 = .ok (.aload_n 0, 1) := by decide +kernel
theorem dX0_mixIn_6 : decode cX0_mixIn 6 = .ok (.getfield 20, 3) := by decide +kernel
theorem dX0_mixIn_9 : decode cX0_mixIn 9 = .ok (.dload_n 1, 1) := by decide +kernel
theorem dX0_mixIn_10 : decode cX0_mixIn 10 = .ok (.dload_n 3, 1) := by decide +kernel
theorem dX0_mixIn_11 : decode cX0_mixIn 11 = .ok (.invokestatic 29, 3) := by decide +kernel
theorem dX0_mixIn_14 : decode cX0_mixIn 14 = .ok (.putfield 20, 3) := by decide +kernel
theorem dX0_mixIn_17 : decode cX0_mixIn 17 = .ok (.aload_n 0, 1) := by decide +kernel
theorem dX0_mixIn_18 : decode cX0_mixIn 18 = .ok (.aload_n 0, 1) := by decide +kernel
theorem dX0_mixIn_19 : decode cX0_mixIn 19 = .ok (.getfield 16, 3) := by decide +kernel
theorem dX0_mixIn_22 : decode cX0_mixIn 22 = .ok (.aload_n 0, 1) := by decide +kernel
theorem dX0_mixIn_23 : decode cX0_mixIn 23 = .ok (.getfield 23, 3) := by decide +kernel
theorem dX0_mixIn_26 : decode cX0_mixIn 26 = .ok (.dload_n 1, 1) := by decide +kernel
theorem dX0_mixIn_27 : decode cX0_mixIn 27 = .ok (.dload 5, 2) := by decide +kernel
theorem dX0_mixIn_29 : decode cX0_mixIn 29 = .ok (.invokestatic 29, 3) := by decide +kernel
theorem dX0_mixIn_32 : decode cX0_mixIn 32 = .ok (.putfield 23, 3) := by decide +kernel
theorem dX0_mixIn_35 : decode cX0_mixIn 35 = .ok (.aload_n 0, 1) := by decide +kernel
theorem dX0_mixIn_36 : decode cX0_mixIn 36 = .ok (.aload_n 0, 1) := by decide +kernel
theorem dX0_mixIn_37 : decode cX0_mixIn 37 = .ok (.getfield 16, 3) := by decide +kernel
theorem dX0_mixIn_40 : decode cX0_mixIn 40 = .ok (.aload_n 0, 1) := by decide +kernel
theorem dX0_mixIn_41 : decode cX0_mixIn 41 = .ok (.getfield 26, 3) := by decide +kernel
theorem dX0_mixIn_44 : decode cX0_mixIn 44 = .ok (.dload_n 1, 1) := by decide +kernel
theorem dX0_mixIn_45 : decode cX0_mixIn 45 = .ok (.dload 7, 2) := by decide +kernel
theorem dX0_mixIn_47 : decode cX0_mixIn 47 = .ok (.invokestatic 29, 3) := by decide +kernel
theorem dX0_mixIn_50 : decode cX0_mixIn 50 = .ok (.putfield 26, 3) := by decide +kernel
theorem dX0_mixIn_53 : decode cX0_mixIn 53 = .ok (.aload_n 0, 1) := by decide +kernel
theorem dX0_mixIn_54 : decode cX0_mixIn 54 = .ok (.aload_n 0, 1) := by decide +kernel
theorem dX0_mixIn_55 : decode cX0_mixIn 55 = .ok (.getfield 16, 3) := by decide +kernel
theorem dX0_mixIn_58 : decode cX0_mixIn 58 = .ok (.dload_n 1, 1) := by decide +kernel
theorem dX0_mixIn_59 : decode cX0_mixIn 59 = .ok (.dadd, 1) := by decide +kernel
theorem dX0_mixIn_60 : decode cX0_mixIn 60 = .ok (.putfield 16, 3) := by decide +kernel
theorem dX0_mixIn_63 : decode cX0_mixIn 63 = .ok (.return_, 1) := by decide +kernel
set_option maxRecDepth 20000 in
theorem ggX0_takeOut_X0_clear : GoodIn wsX0_takeOut wsX0_clear := goodIn_r _ [6, 1, 7, 8, 9, 10, 11, 12, 13, 14, 15] (by decide +kernel) (by decide +kernel)
set_option maxRecDepth 20000 in
theorem gX0_takeOut_X0_clear : GoodIn wsX0_takeOut (wsV RX0 33 RX0 yX0_clear wsX0_clear) := goodIn_app (goodIn_of _ (by decide +kernel)) ggX0_takeOut_X0_clear
theorem dX0_takeOut_0 : decode cX0_takeOut 0 = .ok (.aload_n 0, 1) := by decide +kernel
theorem dX0_takeOut_1 : decode cX0_takeOut 1 = .ok (.aload_n 0, 1) := by decide +kernel
theorem dX0_takeOut_2 : decode cX0_takeOut 2 = .ok (.getfield 16, 3) := by decide +kernel
theorem dX0_takeOut_5 : decode cX0_takeOut 5 = .ok (.dload_n 1, 1) := by decide +kernel
theorem dX0_takeOut_6 : decode cX0_takeOut 6 = .ok (.dsub, 1) := by decide +kernel
theorem dX0_takeOut_7 : decode cX0_takeOut 7 = .ok (.putfield 16, 3) := by decide +kernel
theorem dX0_takeOut_10 : decode cX0_takeOut 10 = .ok (.aload_n 0, 1) := by decide +kernel
theorem dX0_takeOut_11 : decode cX0_takeOut 11 = .ok (.getfield 16, 3) := by decide +kernel
theorem dX0_takeOut_14 : decode cX0_takeOut 14 = .ok (.dconst 0, 1) := by decide +kernel
theorem dX0_takeOut_15 : decode cX0_takeOut 15 = .ok (.dcmp .g, 1) := by decide +kernel
theorem dX0_takeOut_16 : decode cX0_takeOut 16 = .ok (.ifCond .gt 7, 3) := by decide +kernel
theorem dX0_takeOut_19 : decode cX0_takeOut 19 = .ok (.aload_n 0, 1) := by decide +kernel
theorem dX0_takeOut_20 : decode cX0_takeOut 20 = .ok (.invokevirtual 33, 3) := by decide +kernel
theorem dX0_takeOut_23 : decode cX0_takeOut 23 = .ok (.return_, 1) := by decide +kernel
set_option maxRecDepth 20000 in
theorem ggX0_spendYear_X0_share : GoodIn wsX0_spendYear wsX0_share := goodIn_r _ [9, 10, 11, 12, 13] (by decide +kernel) (by decide +kernel)
set_option maxRecDepth 20000 in
theorem gX0_spendYear_X0_share : GoodIn wsX0_spendYear (va_wsS RX0 36 yX0_share wsX0_share) := goodIn_app (goodIn_of _ (by decide +kernel)) ggX0_spendYear_X0_share
set_option maxRecDepth 20000 in
theorem ggX0_spendYear_X0_takeOut : GoodIn wsX0_spendYear wsX0_takeOut := goodIn_r _ [17, 1, 18, 19, 20, 8, 21, 5, 22, 3, 37, 38, 39, 40, 41, 42] (by decide +kernel) (by decide +kernel)
set_option maxRecDepth 20000 in
theorem gX0_spendYear_X0_takeOut : GoodIn wsX0_spendYear (wsV RX0 40 RX0 yX0_takeOut wsX0_takeOut) := goodIn_app (goodIn_of _ (by decide +kernel)) ggX0_spendYear_X0_takeOut
set_option maxRecDepth 20000 in
theorem ggX0_spendYear_X0_isEmpty : GoodIn wsX0_spendYear wsX0_isEmpty := goodIn_r _ [26, 1, 37, 38, 39, 40, 41, 42] (by decide +kernel) (by decide +kernel)
set_option maxRecDepth 20000 in
theorem gX0_spendYear_X0_isEmpty : GoodIn wsX0_spendYear (wsV RX0 44 RX0 yX0_isEmpty wsX0_isEmpty) := goodIn_app (goodIn_of _ (by decide +kernel)) ggX0_spendYear_X0_isEmpty
set_option maxRecDepth 20000 in
theorem ggX0_spendYear_X0_sour : GoodIn wsX0_spendYear wsX0_sour := goodIn_r _ [30, 3, 31, 22, 32, 33, 34, 35, 36, 37, 38, 39, 40, 41, 42] (by decide +kernel) (by decide +kernel)
set_option maxRecDepth 20000 in
theorem gX0_spendYear_X0_sour : GoodIn wsX0_spendYear (wsV RX0 50 RX0 yX0_sour wsX0_sour) := goodIn_app (goodIn_of _ (by decide +kernel)) ggX0_spendYear_X0_sour
theorem dX0_spendYear_0 : decode cX0_spendYear 0 = .ok (.aload_n 0, 1) := by decide +kernel
theorem dX0_spendYear_1 : decode cX0_spendYear 1 = .ok (.getfield 16, 3) := by decide +kernel
theorem dX0_spendYear_4 : decode cX0_spendYear 4 = .ok (.dstore_n 3, 1) := by decide +kernel
theorem dX0_spendYear_5 : decode cX0_spendYear 5 = .ok (.aload_n 0, 1) := by decide +kernel
theorem dX0_spendYear_6 : decode cX0_spendYear 6 = .ok (.getfield 16, 3) := by decide +kernel
theorem dX0_spendYear_9 : decode cX0_spendYear 9 = .ok (.aload_n 0, 1) := by decide +kernel
theorem dX0_spendYear_10 : decode cX0_spendYear 10 = .ok (.getfield 7, 3) := by decide +kernel
theorem dX0_spendYear_13 : decode cX0_spendYear 13 = .ok (.invokestatic 36, 3) := by decide +kernel
theorem dX0_spendYear_16 : decode cX0_spendYear 16 = .ok (.dmul, 1) := by decide +kernel
theorem dX0_spendYear_17 : decode cX0_spendYear 17 = .ok (.dload_n 1, 1) := by decide +kernel
theorem dX0_spendYear_18 : decode cX0_spendYear 18 = .ok (.dmul, 1) := by decide +kernel
theorem dX0_spendYear_19 : decode cX0_spendYear 19 = .ok (.dstore 5, 2) := by decide +kernel
theorem dX0_spendYear_21 : decode cX0_spendYear 21 = .ok (.aload_n 0, 1) := by decide +kernel
theorem dX0_spendYear_22 : decode cX0_spendYear 22 = .ok (.dload 5, 2) := by decide +kernel
theorem dX0_spendYear_24 : decode cX0_spendYear 24 = .ok (.invokevirtual 40, 3) := by decide +kernel
theorem dX0_spendYear_27 : decode cX0_spendYear 27 = .ok (.aload_n 0, 1) := by decide +kernel
theorem dX0_spendYear_28 : decode cX0_spendYear 28 = .ok (.invokevirtual 44, 3) := by decide +kernel
theorem dX0_spendYear_31 : decode cX0_spendYear 31 = .ok (.ifCond .ne 51, 3) := by decide +kernel
theorem dX0_spendYear_34 : decode cX0_spendYear 34 = .ok (.aload_n 0, 1) := by decide +kernel
theorem dX0_spendYear_35 : decode cX0_spendYear 35 = .ok (.getfield 26, 3) := by decide +kernel
theorem dX0_spendYear_38 : decode cX0_spendYear 38 = .ok (.dload_n 3, 1) := by decide +kernel
theorem dX0_spendYear_39 : decode cX0_spendYear 39 = .ok (.dmul, 1) := by decide +kernel
theorem dX0_spendYear_40 : decode cX0_spendYear 40 = .ok (.aload_n 0, 1) := by decide +kernel
theorem dX0_spendYear_41 : decode cX0_spendYear 41 = .ok (.getfield 16, 3) := by decide +kernel
theorem dX0_spendYear_44 : decode cX0_spendYear 44 = .ok (.ddiv, 1) := by decide +kernel
theorem dX0_spendYear_45 : decode cX0_spendYear 45 = .ok (.dstore 7, 2) := by decide +kernel
theorem dX0_spendYear_47 : decode cX0_spendYear 47 = .ok (.aload_n 0, 1) := by decide +kernel
theorem dX0_spendYear_48 : decode cX0_spendYear 48 = .ok (.dload 7, 2) := by decide +kernel
theorem dX0_spendYear_50 : decode cX0_spendYear 50 = .ok (.ldc2_w 48, 3) := by decide +kernel
theorem dX0_spendYear_53 : decode cX0_spendYear 53 = .ok (.dcmp .l, 1) := by decide +kernel
theorem dX0_spendYear_54 : decode cX0_spendYear 54 = .ok (.ifCond .le 9, 3) := by decide +kernel
theorem dX0_spendYear_57 : decode cX0_spendYear 57 = .ok (.ldc2_w 48, 3) := by decide +kernel
theorem dX0_spendYear_60 : decode cX0_spendYear 60 = .ok (.goto 5, 3) := by decide +kernel
theorem dX0_spendYear_63 : decode cX0_spendYear 63 = .ok (.dload 7, 2) := by decide +kernel
theorem dX0_spendYear_65 : decode cX0_spendYear 65 = .ok (.putfield 26, 3) := by decide +kernel
theorem dX0_spendYear_68 : decode cX0_spendYear 68 = .ok (.aload_n 0, 1) := by decide +kernel
theorem dX0_spendYear_69 : decode cX0_spendYear 69 = .ok (.invokevirtual 50, 3) := by decide +kernel
theorem dX0_spendYear_72 : decode cX0_spendYear 72 = .ok (.aload_n 0, 1) := by decide +kernel
theorem dX0_spendYear_73 : decode cX0_spendYear 73 = .ok (.aload_n 0, 1) := by decide +kernel
theorem dX0_spendYear_74 : decode cX0_spendYear 74 = .ok (.getfield 20, 3) := by decide +kernel
theorem dX0_spendYear_77 : decode cX0_spendYear 77 = .ok (.dconst 1, 1) := by decide +kernel
theorem dX0_spendYear_78 : decode cX0_spendYear 78 = .ok (.dadd, 1) := by decide +kernel
theorem dX0_spendYear_79 : decode cX0_spendYear 79 = .ok (.putfield 20, 3) := by decide +kernel
theorem dX0_spendYear_82 : decode cX0_spendYear 82 = .ok (.dload 5, 2) := by decide +kernel
theorem dX0_spendYear_84 : decode cX0_spendYear 84 = .ok (.dreturn, 1) := by decide +kernel
theorem dX0_sour_0 : decode cX0_sour 0 = .ok (.aload_n 0, 1) := by decide +kernel
theorem dX0_sour_1 : decode cX0_sour 1 = .ok (.getfield 26, 3) := by decide +kernel
theorem dX0_sour_4 : decode cX0_sour 4 = .ok (.ldc2_w 53, 3) := by decide +kernel
theorem dX0_sour_7 : decode cX0_sour 7 = .ok (.dcmp .l, 1) := by decide +kernel
theorem dX0_sour_8 : decode cX0_sour 8 = .ok (.ifCond .le 41, 3) := by decide +kernel
theorem dX0_sour_11 : decode cX0_sour 11 = .ok (.aload_n 0, 1) := by decide +kernel
theorem dX0_sour_12 : decode cX0_sour 12 = .ok (.getfield 23, 3) := by decide +kernel
theorem dX0_sour_15 : decode cX0_sour 15 = .ok (.ldc2_w 55, 3) := by decide +kernel
theorem dX0_sour_18 : decode cX0_sour 18 = .ok (.dcmp .g, 1) := by decide +kernel
theorem dX0_sour_19 : decode cX0_sour 19 = .ok (.ifCond .ge 30, 3) := by decide +kernel
theorem dX0_sour_22 : decode cX0_sour 22 = .ok (.aload_n 0, 1) := by decide +kernel
theorem dX0_sour_23 : decode cX0_sour 23 = .ok (.aload_n 0, 1) := by decide +kernel
theorem dX0_sour_24 : decode cX0_sour 24 = .ok (.getfield 23, 3) := by decide +kernel
theorem dX0_sour_27 : decode cX0_sour 27 = .ok (.ldc2_w 57, 3) := by decide +kernel
theorem dX0_sour_30 : decode cX0_sour 30 = .ok (.dadd, 1) := by decide +kernel
theorem dX0_sour_31 : decode cX0_sour 31 = .ok (.putfield 23, 3) := by decide +kernel
theorem dX0_sour_34 : decode cX0_sour 34 = .ok (.aload_n 0, 1) := by decide +kernel
theorem dX0_sour_35 : decode cX0_sour 35 = .ok (.aload_n 0, 1) := by decide +kernel
theorem dX0_sour_36 : decode cX0_sour 36 = .ok (.getfield 26, 3) := by decide +kernel
theorem dX0_sour_39 : decode cX0_sour 39 = .ok (.ldc2_w 59, 3) := by decide +kernel
theorem dX0_sour_42 : decode cX0_sour 42 = .ok (.dsub, 1) := by decide +kernel
theorem dX0_sour_43 : decode cX0_sour 43 = .ok (.putfield 26, 3) := by decide +kernel
theorem dX0_sour_46 : decode cX0_sour 46 = .ok (.goto 31, 3) := by decide +kernel
theorem dX0_sour_49 : decode cX0_sour 49 = .ok (.aload_n 0, 1) := by decide +kernel
theorem dX0_sour_50 : decode cX0_sour 50 = .ok (.getfield 23, 3) := by decide +kernel
theorem dX0_sour_53 : decode cX0_sour 53 = .ok (.ldc2_w 61, 3) := by decide +kernel
theorem dX0_sour_56 : decode cX0_sour 56 = .ok (.dadd, 1) := by decide +kernel
theorem dX0_sour_57 : decode cX0_sour 57 = .ok (.dstore_n 1, 1) := by decide +kernel
theorem dX0_sour_58 : decode cX0_sour 58 = .ok (.aload_n 0, 1) := by decide +kernel
theorem dX0_sour_59 : decode cX0_sour 59 = .ok (.dload_n 1, 1) := by decide +kernel
theorem dX0_sour_60 : decode cX0_sour 60 = .ok (.ldc2_w 63, 3) := by decide +kernel
theorem dX0_sour_63 : decode cX0_sour 63 = .ok (.dcmp .l, 1) := by decide +kernel
theorem dX0_sour_64 : decode cX0_sour 64 = .ok (.ifCond .le 9, 3) := by decide +kernel
theorem dX0_sour_67 : decode cX0_sour 67 = .ok (.ldc2_w 63, 3) := by decide +kernel
theorem dX0_sour_70 : decode cX0_sour 70 = .ok (.goto 4, 3) := by decide +kernel
theorem dX0_sour_73 : decode cX0_sour 73 = .ok (.dload_n 1, 1) := by decide +kernel
theorem dX0_sour_74 : decode cX0_sour 74 = .ok (.putfield 23, 3) := by decide +kernel
theorem dX0_sour_77 : decode cX0_sour 77 = .ok (.return_, 1) := by decide +kernel
set_option maxRecDepth 20000 in
theorem ggX0_taste_X0_isEmpty : GoodIn wsX0_taste wsX0_isEmpty := goodIn_r _ [12, 13, 14, 15, 16, 17, 18, 19] (by decide +kernel) (by decide +kernel)
set_option maxRecDepth 20000 in
theorem gX0_taste_X0_isEmpty : GoodIn wsX0_taste (wsV RX0 44 RX0 yX0_isEmpty wsX0_isEmpty) := goodIn_app (goodIn_of _ (by decide +kernel)) ggX0_taste_X0_isEmpty
theorem dX0_taste_0 : decode cX0_taste 0 = .ok (.aload_n 0, 1) := by decide +kernel
theorem dX0_taste_1 : decode cX0_taste 1 = .ok (.invokevirtual 44, 3) := by decide +kernel
theorem dX0_taste_4 : decode cX0_taste 4 = .ok (.ifCond .eq 5, 3) := by decide +kernel
theorem dX0_taste_7 : decode cX0_taste 7 = .ok (.dconst 0, 1) := by decide +kernel
theorem dX0_taste_8 : decode cX0_taste 8 = .ok (.dreturn, 1) := by decide +kernel
theorem dX0_taste_9 : decode cX0_taste 9 = .ok (.aload_n 0, 1) := by decide +kernel
theorem dX0_taste_10 : decode cX0_taste 10 = .ok (.getfield 23, 3) := by decide +kernel
theorem dX0_taste_13 : decode cX0_taste 13 = .ok (.ldc2_w 65, 3) := by decide +kernel
theorem dX0_taste_16 : decode cX0_taste 16 = .ok (.dsub, 1) := by decide +kernel
theorem dX0_taste_17 : decode cX0_taste 17 = .ok (.dstore_n 1, 1) := by decide +kernel
theorem dX0_taste_18 : decode cX0_taste 18 = .ok (.dload_n 1, 1) := by decide +kernel
theorem dX0_taste_19 : decode cX0_taste 19 = .ok (.dconst 0, 1) := by decide +kernel
theorem dX0_taste_20 : decode cX0_taste 20 = .ok (.dcmp .g, 1) := by decide +kernel
theorem dX0_taste_21 : decode cX0_taste 21 = .ok (.ifCond .ge 8, 3) := by decide +kernel
theorem dX0_taste_24 : decode cX0_taste 24 = .ok (.dload_n 1, 1) := by decide +kernel
theorem dX0_taste_25 : decode cX0_taste 25 = .ok (.dneg, 1) := by decide +kernel
theorem dX0_taste_26 : decode cX0_taste 26 = .ok (.goto 4, 3) := by decide +kernel
theorem dX0_taste_29 : decode cX0_taste 29 = .ok (.dload_n 1, 1) := by decide +kernel
theorem dX0_taste_30 : decode cX0_taste 30 = .ok (.dstore_n 3, 1) := by decide +kernel
theorem dX0_taste_31 : decode cX0_taste 31 = .ok (.ldc2_w 67, 3) := by decide +kernel
theorem dX0_taste_34 : decode cX0_taste 34 = .ok (.aload_n 0, 1) := by decide +kernel
theorem dX0_taste_35 : decode cX0_taste 35 = .ok (.getfield 20, 3) := by decide +kernel
theorem dX0_taste_38 : decode cX0_taste 38 = .ok (.dmul, 1) := by decide +kernel
theorem dX0_taste_39 : decode cX0_taste 39 = .ok (.ldc2_w 59, 3) := by decide +kernel
theorem dX0_taste_42 : decode cX0_taste 42 = .ok (.aload_n 0, 1) := by decide +kernel
theorem dX0_taste_43 : decode cX0_taste 43 = .ok (.getfield 26, 3) := by decide +kernel
theorem dX0_taste_46 : decode cX0_taste 46 = .ok (.dmul, 1) := by decide +kernel
theorem dX0_taste_47 : decode cX0_taste 47 = .ok (.dadd, 1) := by decide +kernel
theorem dX0_taste_48 : decode cX0_taste 48 = .ok (.ldc2_w 69, 3) := by decide +kernel
theorem dX0_taste_51 : decode cX0_taste 51 = .ok (.dload_n 3, 1) := by decide +kernel
theorem dX0_taste_52 : decode cX0_taste 52 = .ok (.dmul, 1) := by decide +kernel
theorem dX0_taste_53 : decode cX0_taste 53 = .ok (.dsub, 1) := by decide +kernel
theorem dX0_taste_54 : decode cX0_taste 54 = .ok (.dreturn, 1) := by decide +kernel
theorem dX0_mixed_0 : decode cX0_mixed 0 = .ok (.dload_n 0, 1) := by decide +kernel
theorem dX0_mixed_1 : decode cX0_mixed 1 = .ok (.dload 4, 2) := by decide +kernel
theorem dX0_mixed_3 : decode cX0_mixed 3 = .ok (.dadd, 1) := by decide +kernel
theorem dX0_mixed_4 : decode cX0_mixed 4 = .ok (.dstore 8, 2) := by decide +kernel
theorem dX0_mixed_6 : decode cX0_mixed 6 = .ok (.dload 8, 2) := by decide +kernel
theorem dX0_mixed_8 : decode cX0_mixed 8 = .ok (.dconst 0, 1) := by decide +kernel
theorem dX0_mixed_9 : decode cX0_mixed 9 = .ok (.dcmp .l, 1) := by decide +kernel
theorem dX0_mixed_10 : decode cX0_mixed 10 = .ok (.ifCond .le 18, 3) := by decide +kernel
theorem dX0_mixed_13 : decode cX0_mixed 13 = .ok (.dload_n 0, 1) := by decide +kernel
theorem dX0_mixed_14 : decode cX0_mixed 14 = .ok (.dload_n 2, 1) := by decide +kernel
theorem dX0_mixed_15 : decode cX0_mixed 15 = .ok (.dmul, 1) := by decide +kernel
theorem dX0_mixed_16 : decode cX0_mixed 16 = .ok (.dload 4, 2) := by decide +kernel
theorem dX0_mixed_18 : decode cX0_mixed 18 = .ok (.dload 6, 2) := by decide +kernel
theorem dX0_mixed_20 : decode cX0_mixed 20 = .ok (.dmul, 1) := by decide +kernel
theorem dX0_mixed_21 : decode cX0_mixed 21 = .ok (.dadd, 1) := by decide +kernel
theorem dX0_mixed_22 : decode cX0_mixed 22 = .ok (.dload 8, 2) := by decide +kernel
theorem dX0_mixed_24 : decode cX0_mixed 24 = .ok (.ddiv, 1) := by decide +kernel
theorem dX0_mixed_25 : decode cX0_mixed 25 = .ok (.goto 4, 3) := by decide +kernel
theorem dX0_mixed_28 : decode cX0_mixed 28 = .ok (.dconst 0, 1) := by decide +kernel
theorem dX0_mixed_29 : decode cX0_mixed 29 = .ok (.dreturn, 1) := by decide +kernel
theorem dX0_share_0 : decode cX0_share 0 = .ok (.iload_n 0, 1) := by decide +kernel
theorem dX0_share_1 : decode cX0_share 1 = .ok (.tableswitch 39 0 2 #[27, 31, 35], 27) := by decide +kernel
theorem dX0_share_28 : decode cX0_share 28 = .ok (.ldc2_w 71, 3) := by decide +kernel
theorem dX0_share_31 : decode cX0_share 31 = .ok (.dreturn, 1) := by decide +kernel
theorem dX0_share_32 : decode cX0_share 32 = .ok (.ldc2_w 73, 3) := by decide +kernel
theorem dX0_share_35 : decode cX0_share 35 = .ok (.dreturn, 1) := by decide +kernel
theorem dX0_share_36 : decode cX0_share 36 = .ok (.ldc2_w 75, 3) := by decide +kernel
theorem dX0_share_39 : decode cX0_share 39 = .ok (.dreturn, 1) := by decide +kernel
theorem dX0_share_40 : decode cX0_share 40 = .ok (.ldc2_w 77, 3) := by decide +kernel
theorem dX0_share_43 : decode cX0_share 43 = .ok (.dreturn, 1) := by decide +kernel
set_option maxRecDepth 20000 in
theorem ggX1_init_X0_init : GoodIn wsX1_init wsX0_init := goodIn_r _ [13, 14, 2, 3] (by decide +kernel) (by decide +kernel)
set_option maxRecDepth 20000 in
theorem gX1_init_X0_init_n17 : GoodIn wsX1_init (wsX0_init) := ggX1_init_X0_init
theorem dX1_init_0 : decode cX1_init 0 = .ok (.aload_n 0, 1) := by decide +kernel
theorem dX1_init_1 : decode cX1_init 1 = .ok (.invokespecial 3, 3) := by decide +kernel
theorem dX1_init_4 : decode cX1_init 4 = .ok (.aload_n 0, 1) := by decide +kernel
theorem dX1_init_5 : decode cX1_init 5 = .ok (.bipush 8, 2) := by decide +kernel
theorem dX1_init_7 : decode cX1_init 7 = .ok (.anewarray 9, 3) := by decide +kernel
theorem dX1_init_10 : decode cX1_init 10 = .ok (.putfield 11, 3) := by decide +kernel
theorem dX1_init_13 : decode cX1_init 13 = .ok (.iconst 0, 1) := by decide +kernel
theorem dX1_init_14 : decode cX1_init 14 = .ok (.istore_n 1, 1) := by decide +kernel
theorem dX1_init_15 : decode cX1_init 15 = .ok (.iload_n 1, 1) := by decide +kernel
theorem dX1_init_16 : decode cX1_init 16 = .ok (.aload_n 0, 1) := by decide +kernel
theorem dX1_init_17 : decode cX1_init 17 = .ok (.getfield 11, 3) := by decide +kernel
theorem dX1_init_20 : decode cX1_init 20 = .ok (.arraylength, 1) := by decide +kernel
theorem dX1_init_21 : decode cX1_init 21 = .ok (.if_icmp .ge 22, 3) := by decide +kernel
theorem dX1_init_24 : decode cX1_init 24 = .ok (.aload_n 0, 1) := by decide +kernel
theorem dX1_init_25 : decode cX1_init 25 = .ok (.getfield 11, 3) := by decide +kernel
theorem dX1_init_28 : decode cX1_init 28 = .ok (.iload_n 1, 1) := by decide +kernel
theorem dX1_init_29 : decode cX1_init 29 = .ok (.new 9, 3) := by decide +kernel
theorem dX1_init_32 : decode cX1_init 32 = .ok (.dup, 1) := by decide +kernel
theorem dX1_init_33 : decode cX1_init 33 = .ok (.invokespecial 17, 3) := by decide +kernel
theorem dX1_init_36 : decode cX1_init 36 = .ok (.aastore, 1) := by decide +kernel
theorem dX1_init_37 : decode cX1_init 37 = .ok (.iinc 1 1, 3) := by decide +kernel
theorem dX1_init_40 : decode cX1_init 40 = .ok (.goto (-25), 3) := by decide +kernel
theorem dX1_init_43 : decode cX1_init 43 = .ok (.aload_n 0, 1) := by decide +kernel
theorem dX1_init_44 : decode cX1_init 44 = .ok (.iconst 0, 1) := by decide +kernel
theorem dX1_init_45 : decode cX1_init 45 = .ok (.putfield 18, 3) := by decide +kernel
theorem dX1_init_48 : decode cX1_init 48 = .ok (.aload_n 0, 1) := by decide +kernel
theorem dX1_init_49 : decode cX1_init 49 = .ok (.bipush 18, 2) := by decide +kernel
theorem dX1_init_51 : decode cX1_init 51 = .ok (.putfield 22, 3) := by decide +kernel
theorem dX1_init_54 : decode cX1_init 54 = .ok (.aload_n 0, 1) := by decide +kernel
theorem dX1_init_55 : decode cX1_init 55 = .ok (.iconst (-1), 1) := by decide +kernel
theorem dX1_init_56 : decode cX1_init 56 = .ok (.putfield 25, 3) := by decide +kernel
theorem dX1_init_59 : decode cX1_init 59 = .ok (.aload_n 0, 1) := by decide +kernel
theorem dX1_init_60 : decode cX1_init 60 = .ok (.dconst 0, 1) := by decide +kernel
theorem dX1_init_61 : decode cX1_init 61 = .ok (.putfield 28, 3) := by decide +kernel
theorem dX1_init_64 : decode cX1_init 64 = .ok (.return_, 1) := by decide +kernel
set_option maxRecDepth 20000 in
theorem ggX1_copyFrom_X0_copyFrom : GoodIn wsX1_copyFrom wsX0_copyFrom := goodIn_r _ [10, 11, 12, 13, 14, 15, 16, 22, 23, 24, 25, 26, 27] (by decide +kernel) (by decide +kernel)
set_option maxRecDepth 20000 in
theorem gX1_copyFrom_X0_copyFrom : GoodIn wsX1_copyFrom (wsV RX1 32 RX0 yX0_copyFrom wsX0_copyFrom) := goodIn_app (goodIn_of _ (by decide +kernel)) ggX1_copyFrom_X0_copyFrom
theorem dX1_copyFrom_0 : decode cX1_copyFrom 0 = .ok (.aload_n 0, 1) := by decide +kernel
theorem dX1_copyFrom_1 : decode cX1_copyFrom 1 = .ok (.aload_n 1, 1) := by decide +kernel
theorem dX1_copyFrom_2 : decode cX1_copyFrom 2 = .ok (.getfield 18, 3) := by decide +kernel
theorem dX1_copyFrom_5 : decode cX1_copyFrom 5 = .ok (.putfield 18, 3) := by decide +kernel
theorem dX1_copyFrom_8 : decode cX1_copyFrom 8 = .ok (.aload_n 0, 1) := by decide +kernel
theorem dX1_copyFrom_9 : decode cX1_copyFrom 9 = .ok (.aload_n 1, 1) := by decide +kernel
theorem dX1_copyFrom_10 : decode cX1_copyFrom 10 = .ok (.getfield 22, 3) := by decide +kernel
theorem dX1_copyFrom_13 : decode cX1_copyFrom 13 = .ok (.putfield 22, 3) := by decide +kernel
theorem dX1_copyFrom_16 : decode cX1_copyFrom 16 = .ok (.aload_n 0, 1) := by decide +kernel
theorem dX1_copyFrom_17 : decode cX1_copyFrom 17 = .ok (.aload_n 1, 1) := by decide +kernel
theorem dX1_copyFrom_18 : decode cX1_copyFrom 18 = .ok (.getfield 25, 3) := by decide +kernel
theorem dX1_copyFrom_21 : decode cX1_copyFrom 21 = .ok (.putfield 25, 3) := by decide +kernel
theorem dX1_copyFrom_24 : decode cX1_copyFrom 24 = .ok (.aload_n 0, 1) := by decide +kernel
theorem dX1_copyFrom_25 : decode cX1_copyFrom 25 = .ok (.aload_n 1, 1) := by decide +kernel
theorem dX1_copyFrom_26 : decode cX1_copyFrom 26 = .ok (.getfield 28, 3) := by decide +kernel
theorem dX1_copyFrom_29 : decode cX1_copyFrom 29 = .ok (.putfield 28, 3) := by decide +kernel
theorem dX1_copyFrom_32 : decode cX1_copyFrom 32 = .ok (.iconst 0, 1) := by decide +kernel
theorem dX1_copyFrom_33 : decode cX1_copyFrom 33 = .ok (.istore_n 2, 1) := by decide +kernel
theorem dX1_copyFrom_34 : decode cX1_copyFrom 34 = .ok (.iload_n 2, 1) := by decide +kernel
theorem dX1_copyFrom_35 : decode cX1_copyFrom 35 = .ok (.aload_n 0, 1) := by decide +kernel
theorem dX1_copyFrom_36 : decode cX1_copyFrom 36 = .ok (.getfield 18, 3) := by decide +kernel
theorem dX1_copyFrom_39 : decode cX1_copyFrom 39 = .ok (.if_icmp .ge 24, 3) := by decide +kernel
theorem dX1_copyFrom_42 : decode cX1_copyFrom 42 = .ok (.aload_n 0, 1) := by decide +kernel
theorem dX1_copyFrom_43 : decode cX1_copyFrom 43 = .ok (.getfield 11, 3) := by decide +kernel
theorem dX1_copyFrom_46 : decode cX1_copyFrom 46 = .ok (.iload_n 2, 1) := by decide +kernel
theorem dX1_copyFrom_47 : decode cX1_copyFrom 47 = .ok (.aaload, 1) := by decide +kernel
theorem dX1_copyFrom_48 : decode cX1_copyFrom 48 = .ok (.aload_n 1, 1) := by decide +kernel
theorem dX1_copyFrom_49 : decode cX1_copyFrom 49 = .ok (.getfield 11, 3) := by decide +kernel
theorem dX1_copyFrom_52 : decode cX1_copyFrom 52 = .ok (.iload_n 2, 1) := by decide +kernel
theorem dX1_copyFrom_53 : decode cX1_copyFrom 53 = .ok (.aaload, 1) := by decide +kernel
theorem dX1_copyFrom_54 : decode cX1_copyFrom 54 = .ok (.invokevirtual 32, 3) := by decide +kernel
theorem dX1_copyFrom_57 : decode cX1_copyFrom 57 = .ok (.iinc 2 1, 3) := by decide +kernel
theorem dX1_copyFrom_60 : decode cX1_copyFrom 60 = .ok (.goto (-26), 3) := by decide +kernel
theorem dX1_copyFrom_63 : decode cX1_copyFrom 63 = .ok (.return_, 1) := by decide +kernel
theorem dX1_isComplete_0 : decode cX1_isComplete 0 = .ok (.aload_n 0, 1) := by decide +kernel
theorem dX1_isComplete_1 : decode cX1_isComplete 1 = .ok (.getfield 18, 3) := by decide +kernel
theorem dX1_isComplete_4 : decode cX1_isComplete 4 = .ok (.aload_n 0, 1) := by decide +kernel
theorem dX1_isComplete_5 : decode cX1_isComplete 5 = .ok (.getfield 11, 3) := by decide +kernel
theorem dX1_isComplete_8 : decode cX1_isComplete 8 = .ok (.arraylength, 1) := by decide +kernel
theorem dX1_isComplete_9 : decode cX1_isComplete 9 = .ok (.if_icmp .lt 7, 3) := by decide +kernel
theorem dX1_isComplete_12 : decode cX1_isComplete 12 = .ok (.iconst 1, 1) := by decide +kernel
theorem dX1_isComplete_13 : decode cX1_isComplete 13 = .ok (.goto 4, 3) := by decide +kernel
theorem dX1_isComplete_16 : decode cX1_isComplete 16 = .ok (.iconst 0, 1) := by decide +kernel
theorem dX1_isComplete_17 : decode cX1_isComplete 17 = .ok (.ireturn, 1) := by decide +kernel
theorem dX1_largestNext_0 : decode cX1_largestNext 0 = .ok (.aload_n 0, 1) := by decide +kernel
theorem dX1_largestNext_1 : decode cX1_largestNext 1 = .ok (.getfield 18, 3) := by decide +kernel
theorem dX1_largestNext_4 : decode cX1_largestNext 4 = .ok (.ifCond .le 22, 3) := by decide +kernel
theorem dX1_largestNext_7 : decode cX1_largestNext 7 = .ok (.aload_n 0, 1) := by decide +kernel
theorem dX1_largestNext_8 : decode cX1_largestNext 8 = .ok (.getfield 11, 3) := by decide +kernel
theorem dX1_largestNext_11 : decode cX1_largestNext 11 = .ok (.aload_n 0, 1) := by decide +kernel
theorem dX1_largestNext_12 : decode cX1_largestNext 12 = .ok (.getfield 18, 3) := by decide +kernel
theorem dX1_largestNext_15 : decode cX1_largestNext 15 = .ok (.iconst 1, 1) := by decide +kernel
theorem dX1_largestNext_16 : decode cX1_largestNext 16 = .ok (.isub, 1) := by decide +kernel
theorem dX1_largestNext_17 : decode cX1_largestNext 17 = .ok (.aaload, 1) := by decide +kernel
theorem dX1_largestNext_18 : decode cX1_largestNext 18 = .ok (.getfield 36, 3) := by decide +kernel
theorem dX1_largestNext_21 : decode cX1_largestNext 21 = .ok (.iconst 1, 1) := by decide +kernel
theorem dX1_largestNext_22 : decode cX1_largestNext 22 = .ok (.isub, 1) := by decide +kernel
theorem dX1_largestNext_23 : decode cX1_largestNext 23 = .ok (.goto 5, 3) := by decide +kernel
theorem dX1_largestNext_26 : decode cX1_largestNext 26 = .ok (.bipush 100, 2) := by decide +kernel
theorem dX1_largestNext_28 : decode cX1_largestNext 28 = .ok (.ireturn, 1) := by decide +kernel
set_option maxRecDepth 20000 in
theorem ggX1_putBehind_X1_isComplete : GoodIn wsX1_putBehind wsX1_isComplete := goodIn_r _ [9, 2, 1, 19, 20, 21, 22, 23] (by decide +kernel) (by decide +kernel)
set_option maxRecDepth 20000 in
theorem gX1_putBehind_X1_isComplete : GoodIn wsX1_putBehind (wsV RX1 39 RX1 yX1_isComplete wsX1_isComplete) := goodIn_app (goodIn_of _ (by decide +kernel)) ggX1_putBehind_X1_isComplete
set_option maxRecDepth 20000 in
theorem ggX1_putBehind_X0_clear : GoodIn wsX1_putBehind wsX0_clear := goodIn_r _ [14, 15, 16, 17, 18, 24, 25, 26, 27, 28, 29] (by decide +kernel) (by decide +kernel)
set_option maxRecDepth 20000 in
theorem gX1_putBehind_X0_clear : GoodIn wsX1_putBehind (wsV RX1 46 RX0 yX0_clear wsX0_clear) := goodIn_app (goodIn_of _ (by decide +kernel)) ggX1_putBehind_X0_clear
theorem dX1_putBehind_0 : decode cX1_putBehind 0 = .ok (.aload_n 0, 1) := by decide +kernel
theorem dX1_putBehind_1 : decode cX1_putBehind 1 = .ok (.invokevirtual 39, 3) := by decide +kernel
theorem dX1_putBehind_4 : decode cX1_putBehind 4 = .ok (.ifCond .eq 5, 3) := by decide +kernel
theorem dX1_putBehind_7 : decode cX1_putBehind 7 = .ok (.iconst (-1), 1) := by decide +kernel
theorem dX1_putBehind_8 : decode cX1_putBehind 8 = .ok (.ireturn, 1) := by decide +kernel
theorem dX1_putBehind_9 : decode cX1_putBehind 9 = .ok (.aload_n 0, 1) := by decide +kernel
theorem dX1_putBehind_10 : decode cX1_putBehind 10 = .ok (.getfield 11, 3) := by decide +kernel
theorem dX1_putBehind_13 : decode cX1_putBehind 13 = .ok (.aload_n 0, 1) := by decide +kernel
theorem dX1_putBehind_14 : decode cX1_putBehind 14 = .ok (.getfield 18, 3) := by decide +kernel
theorem dX1_putBehind_17 : decode cX1_putBehind 17 = .ok (.aaload, 1) := by decide +kernel
theorem dX1_putBehind_18 : decode cX1_putBehind 18 = .ok (.astore_n 3, 1) := by decide +kernel
theorem dX1_putBehind_19 : decode cX1_putBehind 19 = .ok (.aload_n 3, 1) := by decide +kernel
theorem dX1_putBehind_20 : decode cX1_putBehind 20 = .ok (.iload_n 1, 1) := by decide +kernel
theorem dX1_putBehind_21 : decode cX1_putBehind 21 = .ok (.putfield 43, 3) := by decide +kernel
theorem dX1_putBehind_24 : decode cX1_putBehind 24 = .ok (.aload_n 3, 1) := by decide +kernel
theorem dX1_putBehind_25 : decode cX1_putBehind 25 = .ok (.iload_n 2, 1) := by decide +kernel
theorem dX1_putBehind_26 : decode cX1_putBehind 26 = .ok (.putfield 36, 3) := by decide +kernel
theorem dX1_putBehind_29 : decode cX1_putBehind 29 = .ok (.aload_n 3, 1) := by decide +kernel
theorem dX1_putBehind_30 : decode cX1_putBehind 30 = .ok (.invokevirtual 46, 3) := by decide +kernel
theorem dX1_putBehind_33 : decode cX1_putBehind 33 = .ok (.aload_n 0, 1) := by decide +kernel
theorem dX1_putBehind_34 : decode cX1_putBehind 34 = .ok (.dup, 1) := by decide +kernel
theorem dX1_putBehind_35 : decode cX1_putBehind 35 = .ok (.getfield 18, 3) := by decide +kernel
theorem dX1_putBehind_38 : decode cX1_putBehind 38 = .ok (.iconst 1, 1) := by decide +kernel
theorem dX1_putBehind_39 : decode cX1_putBehind 39 = .ok (.iadd, 1) := by decide +kernel
theorem dX1_putBehind_40 : decode cX1_putBehind 40 = .ok (.putfield 18, 3) := by decide +kernel
theorem dX1_putBehind_43 : decode cX1_putBehind 43 = .ok (.aload_n 0, 1) := by decide +kernel
theorem dX1_putBehind_44 : decode cX1_putBehind 44 = .ok (.getfield 18, 3) := by decide +kernel
theorem dX1_putBehind_47 : decode cX1_putBehind 47 = .ok (.iconst 1, 1) := by decide +kernel
theorem dX1_putBehind_48 : decode cX1_putBehind 48 = .ok (.isub, 1) := by decide +kernel
theorem dX1_putBehind_49 : decode cX1_putBehind 49 = .ok (.ireturn, 1) := by decide +kernel
set_option maxRecDepth 20000 in
theorem ggX1_pourMust_X0_mixIn : GoodIn wsX1_pourMust wsX0_mixIn := goodIn_r _ [10, 11, 12, 13, 14, 15, 16, 9, 17, 23, 24, 25, 26, 27, 28] (by decide +kernel) (by decide +kernel)
set_option maxRecDepth 20000 in
theorem gX1_pourMust_X0_mixIn : GoodIn wsX1_pourMust (wsV RX1 54 RX0 yX0_mixIn wsX0_mixIn) := goodIn_app (goodIn_of _ (by decide +kernel)) ggX1_pourMust_X0_mixIn
theorem dX1_pourMust_0 : decode cX1_pourMust 0 = .ok (.aload_n 0, 1) := by decide +kernel
theorem dX1_pourMust_1 : decode cX1_pourMust 1 = .ok (.getfield 18, 3) := by decide +kernel
theorem dX1_pourMust_4 : decode cX1_pourMust 4 = .ok (.ifCond .ne 5, 3) := by decide +kernel
theorem dX1_pourMust_7 : decode cX1_pourMust 7 = .ok (.dconst 0, 1) := by decide +kernel
theorem dX1_pourMust_8 : decode cX1_pourMust 8 = .ok (.dreturn, 1) := by decide +kernel
theorem dX1_pourMust_9 : decode cX1_pourMust 9 = .ok (.aload_n 0, 1) := by decide +kernel
theorem dX1_pourMust_10 : decode cX1_pourMust 10 = .ok (.getfield 11, 3) := by decide +kernel
theorem dX1_pourMust_13 : decode cX1_pourMust 13 = .ok (.iconst 0, 1) := by decide +kernel
theorem dX1_pourMust_14 : decode cX1_pourMust 14 = .ok (.aaload, 1) := by decide +kernel
theorem dX1_pourMust_15 : decode cX1_pourMust 15 = .ok (.astore_n 2, 1) := by decide +kernel
theorem dX1_pourMust_16 : decode cX1_pourMust 16 = .ok (.aload_n 2, 1) := by decide +kernel
theorem dX1_pourMust_17 : decode cX1_pourMust 17 = .ok (.getfield 36, 3) := by decide +kernel
theorem dX1_pourMust_20 : decode cX1_pourMust 20 = .ok (.i2d, 1) := by decide +kernel
theorem dX1_pourMust_21 : decode cX1_pourMust 21 = .ok (.aload_n 2, 1) := by decide +kernel
theorem dX1_pourMust_22 : decode cX1_pourMust 22 = .ok (.getfield 49, 3) := by decide +kernel
theorem dX1_pourMust_25 : decode cX1_pourMust 25 = .ok (.dsub, 1) := by decide +kernel
theorem dX1_pourMust_26 : decode cX1_pourMust 26 = .ok (.dstore_n 3, 1) := by decide +kernel
theorem dX1_pourMust_27 : decode cX1_pourMust 27 = .ok (.iload_n 1, 1) := by decide +kernel
theorem dX1_pourMust_28 : decode cX1_pourMust 28 = .ok (.i2d, 1) := by decide +kernel
theorem dX1_pourMust_29 : decode cX1_pourMust 29 = .ok (.dload_n 3, 1) := by decide +kernel
theorem dX1_pourMust_30 : decode cX1_pourMust 30 = .ok (.dcmp .g, 1) := by decide +kernel
theorem dX1_pourMust_31 : decode cX1_pourMust 31 = .ok (.ifCond .ge 8, 3) := by decide +kernel
theorem dX1_pourMust_34 : decode cX1_pourMust 34 = .ok (.iload_n 1, 1) := by decide +kernel
theorem dX1_pourMust_35 : decode cX1_pourMust 35 = .ok (.i2d, 1) := by decide +kernel
theorem dX1_pourMust_36 : decode cX1_pourMust 36 = .ok (.goto 4, 3) := by decide +kernel
theorem dX1_pourMust_39 : decode cX1_pourMust 39 = .ok (.dload_n 3, 1) := by decide +kernel
theorem dX1_pourMust_40 : decode cX1_pourMust 40 = .ok (.dstore 5, 2) := by decide +kernel
theorem dX1_pourMust_42 : decode cX1_pourMust 42 = .ok (.dload 5, 2) := by decide +kernel
theorem dX1_pourMust_44 : decode cX1_pourMust 44 = .ok (.dconst 0, 1) := by decide +kernel
theorem dX1_pourMust_45 : decode cX1_pourMust 45 = .ok (.dcmp .g, 1) := by decide +kernel
theorem dX1_pourMust_46 : decode cX1_pourMust 46 = .ok (.ifCond .gt 5, 3) := by decide +kernel
theorem dX1_pourMust_49 : decode cX1_pourMust 49 = .ok (.dconst 0, 1) := by decide +kernel
theorem dX1_pourMust_50 : decode cX1_pourMust 50 = .ok (.dreturn, 1) := by decide +kernel
theorem dX1_pourMust_51 : decode cX1_pourMust 51 = .ok (.aload_n 2, 1) := by decide +kernel
theorem dX1_pourMust_52 : decode cX1_pourMust 52 = .ok (.dload 5, 2) := by decide +kernel
theorem dX1_pourMust_54 : decode cX1_pourMust 54 = .ok (.dconst 0, 1) := by decide +kernel
theorem dX1_pourMust_55 : decode cX1_pourMust 55 = .ok (.dconst 1, 1) := by decide +kernel
theorem dX1_pourMust_56 : decode cX1_pourMust 56 = .ok (.ldc2_w 52, 3) := by decide +kernel
theorem dX1_pourMust_59 : decode cX1_pourMust 59 = .ok (.invokevirtual 54, 3) := by decide +kernel
theorem dX1_pourMust_62 : decode cX1_pourMust 62 = .ok (.dload 5, 2) := by decide +kernel
theorem dX1_pourMust_64 : decode cX1_pourMust 64 = .ok (.dreturn, 1) := by decide +kernel
set_option maxRecDepth 20000 in
theorem ggX1_passDown_X1_passBetween : GoodIn wsX1_passDown wsX1_passBetween := goodIn_r _ [6, 7, 8, 9, 10, 11, 12, 13, 14, 15, 16, 17, 18, 19, 20, 21, 22, 23, 24, 25, 26, 27, 28, 29, 30, 31, 32, 33, 39, 40, 41, 42, 43, 44] (by decide +kernel) (by decide +kernel)
set_option maxRecDepth 20000 in
theorem gX1_passDown_X1_passBetween : GoodIn wsX1_passDown (va_wsS RX1 58 yX1_passBetween wsX1_passBetween) := goodIn_app (goodIn_of _ (by decide +kernel)) ggX1_passDown_X1_passBetween
theorem dX1_passDown_0 : decode cX1_passDown 0 = .ok (.dconst 0, 1) := by decide +kernel
theorem dX1_passDown_1 : decode cX1_passDown 1 = .ok (.dstore_n 1, 1) := by decide +kernel
theorem dX1_passDown_2 : decode cX1_passDown 2 = .ok (.aload_n 0, 1) := by decide +kernel
theorem dX1_passDown_3 : decode cX1_passDown 3 = .ok (.getfield 18, 3) := by decide +kernel
theorem dX1_passDown_6 : decode cX1_passDown 6 = .ok (.iconst 1, 1) := by decide +kernel
theorem dX1_passDown_7 : decode cX1_passDown 7 = .ok (.isub, 1) := by decide +kernel
theorem dX1_passDown_8 : decode cX1_passDown 8 = .ok (.istore_n 3, 1) := by decide +kernel
theorem dX1_passDown_9 : decode cX1_passDown 9 = .ok (.iload_n 3, 1) := by decide +kernel
theorem dX1_passDown_10 : decode cX1_passDown 10 = .ok (.ifCond .le 29, 3) := by decide +kernel
theorem dX1_passDown_13 : decode cX1_passDown 13 = .ok (.dload_n 1, 1) := by decide +kernel
theorem dX1_passDown_14 : decode cX1_passDown 14 = .ok (.aload_n 0, 1) := by decide +kernel
theorem dX1_passDown_15 : decode cX1_passDown 15 = .ok (.getfield 11, 3) := by decide +kernel
theorem dX1_passDown_18 : decode cX1_passDown 18 = .ok (.iload_n 3, 1) := by decide +kernel
theorem dX1_passDown_19 : decode cX1_passDown 19 = .ok (.iconst 1, 1) := by decide +kernel
theorem dX1_passDown_20 : decode cX1_passDown 20 = .ok (.isub, 1) := by decide +kernel
theorem dX1_passDown_21 : decode cX1_passDown 21 = .ok (.aaload, 1) := by decide +kernel
theorem dX1_passDown_22 : decode cX1_passDown 22 = .ok (.aload_n 0, 1) := by decide +kernel
theorem dX1_passDown_23 : decode cX1_passDown 23 = .ok (.getfield 11, 3) := by decide +kernel
theorem dX1_passDown_26 : decode cX1_passDown 26 = .ok (.iload_n 3, 1) := by decide +kernel
theorem dX1_passDown_27 : decode cX1_passDown 27 = .ok (.aaload, 1) := by decide +kernel
theorem dX1_passDown_28 : decode cX1_passDown 28 = .ok (.invokestatic 58, 3) := by decide +kernel
theorem dX1_passDown_31 : decode cX1_passDown 31 = .ok (.dadd, 1) := by decide +kernel
theorem dX1_passDown_32 : decode cX1_passDown 32 = .ok (.dstore_n 1, 1) := by decide +kernel
theorem dX1_passDown_33 : decode cX1_passDown 33 = .ok (.iinc 3 (-1), 3) := by decide +kernel
theorem dX1_passDown_36 : decode cX1_passDown 36 = .ok (.goto (-27), 3) := by decide +kernel
theorem dX1_passDown_39 : decode cX1_passDown 39 = .ok (.dload_n 1, 1) := by decide +kernel
theorem dX1_passDown_40 : decode cX1_passDown 40 = .ok (.dreturn, 1) := by decide +kernel
set_option maxRecDepth 20000 in
theorem ggX1_passBetween_X0_mixIn : GoodIn wsX1_passBetween wsX0_mixIn := goodIn_r _ [12, 13, 14, 15, 16, 17, 18, 11, 19, 28, 29, 30, 31, 32, 33] (by decide +kernel) (by decide +kernel)
set_option maxRecDepth 20000 in
theorem gX1_passBetween_X0_mixIn : GoodIn wsX1_passBetween (wsV RX1 54 RX0 yX0_mixIn wsX0_mixIn) := goodIn_app (goodIn_of _ (by decide +kernel)) ggX1_passBetween_X0_mixIn
set_option maxRecDepth 20000 in
theorem ggX1_passBetween_X0_takeOut : GoodIn wsX1_passBetween wsX0_takeOut := goodIn_r _ [23, 13, 24, 25, 26, 11, 27, 14, 15, 16, 28, 29, 30, 31, 32, 33] (by decide +kernel) (by decide +kernel)
set_option maxRecDepth 20000 in
theorem gX1_passBetween_X0_takeOut : GoodIn wsX1_passBetween (wsV RX1 75 RX0 yX0_takeOut wsX0_takeOut) := goodIn_app (goodIn_of _ (by decide +kernel)) ggX1_passBetween_X0_takeOut
theorem dX1_passBetween_0 : decode cX1_passBetween 0 = .ok (.ldc2_w 62, 3) := by decide +kernel
theorem dX1_passBetween_3 : decode cX1_passBetween 3 = .ok (.aload_n 1, 1) := by decide +kernel
theorem dX1_passBetween_4 : decode cX1_passBetween 4 = .ok (.getfield 36, 3) := by decide +kernel
theorem dX1_passBetween_7 : decode cX1_passBetween 7 = .ok (.i2d, 1) := by decide +kernel
theorem dX1_passBetween_8 : decode cX1_passBetween 8 = .ok (.dmul, 1) := by decide +kernel
theorem dX1_passBetween_9 : decode cX1_passBetween 9 = .ok (.aload_n 1, 1) := by decide +kernel
theorem dX1_passBetween_10 : decode cX1_passBetween 10 = .ok (.getfield 49, 3) := by decide +kernel
theorem dX1_passBetween_13 : decode cX1_passBetween 13 = .ok (.dsub, 1) := by decide +kernel
theorem dX1_passBetween_14 : decode cX1_passBetween 14 = .ok (.dstore_n 2, 1) := by decide +kernel
theorem dX1_passBetween_15 : decode cX1_passBetween 15 = .ok (.ldc2_w 64, 3) := by decide +kernel
theorem dX1_passBetween_18 : decode cX1_passBetween 18 = .ok (.aload_n 0, 1) := by decide +kernel
theorem dX1_passBetween_19 : decode cX1_passBetween 19 = .ok (.getfield 49, 3) := by decide +kernel
theorem dX1_passBetween_22 : decode cX1_passBetween 22 = .ok (.dmul, 1) := by decide +kernel
theorem dX1_passBetween_23 : decode cX1_passBetween 23 = .ok (.dstore 4, 2) := by decide +kernel
theorem dX1_passBetween_25 : decode cX1_passBetween 25 = .ok (.dload_n 2, 1) := by decide +kernel
theorem dX1_passBetween_26 : decode cX1_passBetween 26 = .ok (.dload 4, 2) := by decide +kernel
theorem dX1_passBetween_28 : decode cX1_passBetween 28 = .ok (.dcmp .g, 1) := by decide +kernel
theorem dX1_passBetween_29 : decode cX1_passBetween 29 = .ok (.ifCond .ge 7, 3) := by decide +kernel
theorem dX1_passBetween_32 : decode cX1_passBetween 32 = .ok (.dload_n 2, 1) := by decide +kernel
theorem dX1_passBetween_33 : decode cX1_passBetween 33 = .ok (.goto 5, 3) := by decide +kernel
theorem dX1_passBetween_36 : decode cX1_passBetween 36 = .ok (.dload 4, 2) := by decide +kernel
theorem dX1_passBetween_38 : decode cX1_passBetween 38 = .ok (.dstore 6, 2) := by decide +kernel
theorem dX1_passBetween_40 : decode cX1_passBetween 40 = .ok (.dload 6, 2) := by decide +kernel
theorem dX1_passBetween_42 : decode cX1_passBetween 42 = .ok (.dconst 0, 1) := by decide +kernel
theorem dX1_passBetween_43 : decode cX1_passBetween 43 = .ok (.dcmp .g, 1) := by decide +kernel
theorem dX1_passBetween_44 : decode cX1_passBetween 44 = .ok (.ifCond .gt 5, 3) := by decide +kernel
theorem dX1_passBetween_47 : decode cX1_passBetween 47 = .ok (.dconst 0, 1) := by decide +kernel
theorem dX1_passBetween_48 : decode cX1_passBetween 48 = .ok (.dreturn, 1) := by decide +kernel
theorem dX1_passBetween_49 : decode cX1_passBetween 49 = .ok (.aload_n 1, 1) := by decide +kernel
theorem dX1_passBetween_50 : decode cX1_passBetween 50 = .ok (.dload 6, 2) := by decide +kernel
theorem dX1_passBetween_52 : decode cX1_passBetween 52 = .ok (.aload_n 0, 1) := by decide +kernel
theorem dX1_passBetween_53 : decode cX1_passBetween 53 = .ok (.getfield 66, 3) := by decide +kernel
theorem dX1_passBetween_56 : decode cX1_passBetween 56 = .ok (.aload_n 0, 1) := by decide +kernel
theorem dX1_passBetween_57 : decode cX1_passBetween 57 = .ok (.getfield 69, 3) := by decide +kernel
theorem dX1_passBetween_60 : decode cX1_passBetween 60 = .ok (.aload_n 0, 1) := by decide +kernel
theorem dX1_passBetween_61 : decode cX1_passBetween 61 = .ok (.getfield 72, 3) := by decide +kernel
theorem dX1_passBetween_64 : decode cX1_passBetween 64 = .ok (.invokevirtual 54, 3) := by decide +kernel
theorem dX1_passBetween_67 : decode cX1_passBetween 67 = .ok (.aload_n 0, 1) := by decide +kernel
theorem dX1_passBetween_68 : decode cX1_passBetween 68 = .ok (.dload 6, 2) := by decide +kernel
theorem dX1_passBetween_70 : decode cX1_passBetween 70 = .ok (.invokevirtual 75, 3) := by decide +kernel
theorem dX1_passBetween_73 : decode cX1_passBetween 73 = .ok (.dload 6, 2) := by decide +kernel
theorem dX1_passBetween_75 : decode cX1_passBetween 75 = .ok (.dreturn, 1) := by decide +kernel
set_option maxRecDepth 20000 in
theorem ggX1_ageAll_X1_draughtNow : GoodIn wsX1_ageAll wsX1_draughtNow := goodIn_r _ [11, 12, 13, 14, 61, 62, 63, 64, 65] (by decide +kernel) (by decide +kernel)
set_option maxRecDepth 20000 in
theorem gX1_ageAll_X1_draughtNow : GoodIn wsX1_ageAll (wsV RX1 79 RX1 yX1_draughtNow wsX1_draughtNow) := goodIn_app (goodIn_of _ (by decide +kernel)) ggX1_ageAll_X1_draughtNow
set_option maxRecDepth 20000 in
theorem ggX1_ageAll_X0_isEmpty : GoodIn wsX1_ageAll wsX0_isEmpty := goodIn_r _ [19, 20, 66, 67, 68, 69, 70, 71] (by decide +kernel) (by decide +kernel)
set_option maxRecDepth 20000 in
theorem gX1_ageAll_X0_isEmpty : GoodIn wsX1_ageAll (wsV RX1 83 RX0 yX0_isEmpty wsX0_isEmpty) := goodIn_app (goodIn_of _ (by decide +kernel)) ggX1_ageAll_X0_isEmpty
set_option maxRecDepth 20000 in
theorem ggX1_ageAll_X0_spendYear : GoodIn wsX1_ageAll wsX0_spendYear := goodIn_r _ [24, 20, 25, 26, 27, 28, 29, 30, 18, 31, 32, 33, 34, 35, 36, 37, 38, 39, 40, 41, 42, 43, 44, 45, 16, 17, 19, 46, 47, 48, 49, 50, 51, 52, 53, 54, 55, 66, 67, 68, 69, 70, 71] (by decide +kernel) (by decide +kernel)
set_option maxRecDepth 20000 in
theorem gX1_ageAll_X0_spendYear : GoodIn wsX1_ageAll (wsV RX1 86 RX0 yX0_spendYear wsX0_spendYear) := goodIn_app (goodIn_of _ (by decide +kernel)) ggX1_ageAll_X0_spendYear
set_option maxRecDepth 20000 in
theorem ggX1_ageAll_X1_eldest : GoodIn wsX1_ageAll wsX1_eldest := goodIn_r _ [59, 1, 2, 60, 15, 16, 17, 18, 19, 20, 61, 62, 63, 64, 65, 66, 67, 68, 69, 70, 71] (by decide +kernel) (by decide +kernel)
set_option maxRecDepth 20000 in
theorem gX1_ageAll_X1_eldest : GoodIn wsX1_ageAll (wsV RX1 90 RX1 yX1_eldest wsX1_eldest) := goodIn_app (goodIn_of _ (by decide +kernel)) ggX1_ageAll_X1_eldest
theorem dX1_ageAll_0 : decode cX1_ageAll 0 = .ok (.aload_n 0, 1) := by decide +kernel
theorem dX1_ageAll_1 : decode cX1_ageAll 1 = .ok (.invokevirtual 79, 3) := by decide +kernel
theorem dX1_ageAll_4 : decode cX1_ageAll 4 = .ok (.dstore_n 1, 1) := by decide +kernel
theorem dX1_ageAll_5 : decode cX1_ageAll 5 = .ok (.dconst 0, 1) := by decide +kernel
theorem dX1_ageAll_6 : decode cX1_ageAll 6 = .ok (.dstore_n 3, 1) := by decide +kernel
theorem dX1_ageAll_7 : decode cX1_ageAll 7 = .ok (.iconst 0, 1) := by decide +kernel
theorem dX1_ageAll_8 : decode cX1_ageAll 8 = .ok (.istore 5, 2) := by decide +kernel
theorem dX1_ageAll_10 : decode cX1_ageAll 10 = .ok (.iload 5, 2) := by decide +kernel
theorem dX1_ageAll_12 : decode cX1_ageAll 12 = .ok (.aload_n 0, 1) := by decide +kernel
theorem dX1_ageAll_13 : decode cX1_ageAll 13 = .ok (.getfield 18, 3) := by decide +kernel
theorem dX1_ageAll_16 : decode cX1_ageAll 16 = .ok (.if_icmp .ge 36, 3) := by decide +kernel
theorem dX1_ageAll_19 : decode cX1_ageAll 19 = .ok (.aload_n 0, 1) := by decide +kernel
theorem dX1_ageAll_20 : decode cX1_ageAll 20 = .ok (.getfield 11, 3) := by decide +kernel
theorem dX1_ageAll_23 : decode cX1_ageAll 23 = .ok (.iload 5, 2) := by decide +kernel
theorem dX1_ageAll_25 : decode cX1_ageAll 25 = .ok (.aaload, 1) := by decide +kernel
theorem dX1_ageAll_26 : decode cX1_ageAll 26 = .ok (.invokevirtual 83, 3) := by decide +kernel
theorem dX1_ageAll_29 : decode cX1_ageAll 29 = .ok (.ifCond .ne 17, 3) := by decide +kernel
theorem dX1_ageAll_32 : decode cX1_ageAll 32 = .ok (.dload_n 3, 1) := by decide +kernel
theorem dX1_ageAll_33 : decode cX1_ageAll 33 = .ok (.aload_n 0, 1) := by decide +kernel
theorem dX1_ageAll_34 : decode cX1_ageAll 34 = .ok (.getfield 11, 3) := by decide +kernel
theorem dX1_ageAll_37 : decode cX1_ageAll 37 = .ok (.iload 5, 2) := by decide +kernel
theorem dX1_ageAll_39 : decode cX1_ageAll 39 = .ok (.aaload, 1) := by decide +kernel
theorem dX1_ageAll_40 : decode cX1_ageAll 40 = .ok (.dload_n 1, 1) := by decide +kernel
theorem dX1_ageAll_41 : decode cX1_ageAll 41 = .ok (.invokevirtual 86, 3) := by decide +kernel
theorem dX1_ageAll_44 : decode cX1_ageAll 44 = .ok (.dadd, 1) := by decide +kernel
theorem dX1_ageAll_45 : decode cX1_ageAll 45 = .ok (.dstore_n 3, 1) := by decide +kernel
theorem dX1_ageAll_46 : decode cX1_ageAll 46 = .ok (.iinc 5 1, 3) := by decide +kernel
theorem dX1_ageAll_49 : decode cX1_ageAll 49 = .ok (.goto (-39), 3) := by decide +kernel
theorem dX1_ageAll_52 : decode cX1_ageAll 52 = .ok (.aload_n 0, 1) := by decide +kernel
theorem dX1_ageAll_53 : decode cX1_ageAll 53 = .ok (.aload_n 0, 1) := by decide +kernel
theorem dX1_ageAll_54 : decode cX1_ageAll 54 = .ok (.invokevirtual 90, 3) := by decide +kernel
theorem dX1_ageAll_57 : decode cX1_ageAll 57 = .ok (.putfield 25, 3) := by decide +kernel
theorem dX1_ageAll_60 : decode cX1_ageAll 60 = .ok (.aload_n 0, 1) := by decide +kernel
theorem dX1_ageAll_61 : decode cX1_ageAll 61 = .ok (.aload_n 0, 1) := by decide +kernel
theorem dX1_ageAll_62 : decode cX1_ageAll 62 = .ok (.getfield 25, 3) := by decide +kernel
theorem dX1_ageAll_65 : decode cX1_ageAll 65 = .ok (.iconst (-1), 1) := by decide +kernel
theorem dX1_ageAll_66 : decode cX1_ageAll 66 = .ok (.if_icmp .ne 7, 3) := by decide +kernel
theorem dX1_ageAll_69 : decode cX1_ageAll 69 = .ok (.dconst 0, 1) := by decide +kernel
theorem dX1_ageAll_70 : decode cX1_ageAll 70 = .ok (.goto 19, 3) := by decide +kernel
theorem dX1_ageAll_73 : decode cX1_ageAll 73 = .ok (.ldc2_w 94, 3) := by decide +kernel
theorem dX1_ageAll_76 : decode cX1_ageAll 76 = .ok (.aload_n 0, 1) := by decide +kernel
theorem dX1_ageAll_77 : decode cX1_ageAll 77 = .ok (.getfield 11, 3) := by decide +kernel
theorem dX1_ageAll_80 : decode cX1_ageAll 80 = .ok (.aload_n 0, 1) := by decide +kernel
theorem dX1_ageAll_81 : decode cX1_ageAll 81 = .ok (.getfield 25, 3) := by decide +kernel
end
section
theorem dX1_ageAll_84 : decode cX1_ageAll 84 = .ok (.aaload, 1) := by decide +kernel
theorem dX1_ageAll_85 : decode cX1_ageAll 85 = .ok (.getfield 49, 3) := by decide +kernel
theorem dX1_ageAll_88 : decode cX1_ageAll 88 = .ok (.dmul, 1) := by decide +kernel
theorem dX1_ageAll_89 : decode cX1_ageAll 89 = .ok (.putfield 28, 3) := by decide +kernel
theorem dX1_ageAll_92 : decode cX1_ageAll 92 = .ok (.dload_n 3, 1) := by decide +kernel
theorem dX1_ageAll_93 : decode cX1_ageAll 93 = .ok (.dreturn, 1) := by decide +kernel
theorem dX1_draughtNow_0 : decode cX1_draughtNow 0 = .ok (.dconst 1, 1) := by decide +kernel
theorem dX1_draughtNow_1 : decode cX1_draughtNow 1 = .ok (.ldc2_w 96, 3) := by decide +kernel
theorem dX1_draughtNow_4 : decode cX1_draughtNow 4 = .ok (.aload_n 0, 1) := by decide +kernel
theorem dX1_draughtNow_5 : decode cX1_draughtNow 5 = .ok (.getfield 22, 3) := by decide +kernel
theorem dX1_draughtNow_8 : decode cX1_draughtNow 8 = .ok (.bipush 18, 2) := by decide +kernel
theorem dX1_draughtNow_10 : decode cX1_draughtNow 10 = .ok (.isub, 1) := by decide +kernel
theorem dX1_draughtNow_11 : decode cX1_draughtNow 11 = .ok (.i2d, 1) := by decide +kernel
theorem dX1_draughtNow_12 : decode cX1_draughtNow 12 = .ok (.dmul, 1) := by decide +kernel
theorem dX1_draughtNow_13 : decode cX1_draughtNow 13 = .ok (.dadd, 1) := by decide +kernel
theorem dX1_draughtNow_14 : decode cX1_draughtNow 14 = .ok (.dstore_n 1, 1) := by decide +kernel
theorem dX1_draughtNow_15 : decode cX1_draughtNow 15 = .ok (.dload_n 1, 1) := by decide +kernel
theorem dX1_draughtNow_16 : decode cX1_draughtNow 16 = .ok (.ldc2_w 98, 3) := by decide +kernel
theorem dX1_draughtNow_19 : decode cX1_draughtNow 19 = .ok (.dcmp .g, 1) := by decide +kernel
theorem dX1_draughtNow_20 : decode cX1_draughtNow 20 = .ok (.ifCond .ge 9, 3) := by decide +kernel
theorem dX1_draughtNow_23 : decode cX1_draughtNow 23 = .ok (.ldc2_w 98, 3) := by decide +kernel
theorem dX1_draughtNow_26 : decode cX1_draughtNow 26 = .ok (.goto 4, 3) := by decide +kernel
theorem dX1_draughtNow_29 : decode cX1_draughtNow 29 = .ok (.dload_n 1, 1) := by decide +kernel
theorem dX1_draughtNow_30 : decode cX1_draughtNow 30 = .ok (.dreturn, 1) := by decide +kernel
set_option maxRecDepth 20000 in
theorem ggX1_eldest_X0_isEmpty : GoodIn wsX1_eldest wsX0_isEmpty := goodIn_r _ [8, 9, 15, 16, 17, 18, 19, 20] (by decide +kernel) (by decide +kernel)
set_option maxRecDepth 20000 in
theorem gX1_eldest_X0_isEmpty : GoodIn wsX1_eldest (wsV RX1 83 RX0 yX0_isEmpty wsX0_isEmpty) := goodIn_app (goodIn_of _ (by decide +kernel)) ggX1_eldest_X0_isEmpty
theorem dX1_eldest_0 : decode cX1_eldest 0 = .ok (.iconst (-1), 1) := by decide +kernel
theorem dX1_eldest_1 : decode cX1_eldest 1 = .ok (.istore_n 1, 1) := by decide +kernel
theorem dX1_eldest_2 : decode cX1_eldest 2 = .ok (.dconst 0, 1) := by decide +kernel
theorem dX1_eldest_3 : decode cX1_eldest 3 = .ok (.dstore_n 2, 1) := by decide +kernel
theorem dX1_eldest_4 : decode cX1_eldest 4 = .ok (.iconst 0, 1) := by decide +kernel
theorem dX1_eldest_5 : decode cX1_eldest 5 = .ok (.istore 4, 2) := by decide +kernel
theorem dX1_eldest_7 : decode cX1_eldest 7 = .ok (.iload 4, 2) := by decide +kernel
theorem dX1_eldest_9 : decode cX1_eldest 9 = .ok (.aload_n 0, 1) := by decide +kernel
theorem dX1_eldest_10 : decode cX1_eldest 10 = .ok (.getfield 18, 3) := by decide +kernel
theorem dX1_eldest_13 : decode cX1_eldest 13 = .ok (.if_icmp .ge 51, 3) := by decide +kernel
theorem dX1_eldest_16 : decode cX1_eldest 16 = .ok (.aload_n 0, 1) := by decide +kernel
theorem dX1_eldest_17 : decode cX1_eldest 17 = .ok (.getfield 11, 3) := by decide +kernel
theorem dX1_eldest_20 : decode cX1_eldest 20 = .ok (.iload 4, 2) := by decide +kernel
theorem dX1_eldest_22 : decode cX1_eldest 22 = .ok (.aaload, 1) := by decide +kernel
theorem dX1_eldest_23 : decode cX1_eldest 23 = .ok (.invokevirtual 83, 3) := by decide +kernel
theorem dX1_eldest_26 : decode cX1_eldest 26 = .ok (.ifCond .ne 32, 3) := by decide +kernel
theorem dX1_eldest_29 : decode cX1_eldest 29 = .ok (.aload_n 0, 1) := by decide +kernel
theorem dX1_eldest_30 : decode cX1_eldest 30 = .ok (.getfield 11, 3) := by decide +kernel
theorem dX1_eldest_33 : decode cX1_eldest 33 = .ok (.iload 4, 2) := by decide +kernel
theorem dX1_eldest_35 : decode cX1_eldest 35 = .ok (.aaload, 1) := by decide +kernel
theorem dX1_eldest_36 : decode cX1_eldest 36 = .ok (.getfield 66, 3) := by decide +kernel
theorem dX1_eldest_39 : decode cX1_eldest 39 = .ok (.dload_n 2, 1) := by decide +kernel
theorem dX1_eldest_40 : decode cX1_eldest 40 = .ok (.dcmp .l, 1) := by decide +kernel
theorem dX1_eldest_41 : decode cX1_eldest 41 = .ok (.ifCond .lt 17, 3) := by decide +kernel
theorem dX1_eldest_44 : decode cX1_eldest 44 = .ok (.iload 4, 2) := by decide +kernel
theorem dX1_eldest_46 : decode cX1_eldest 46 = .ok (.istore_n 1, 1) := by decide +kernel
theorem dX1_eldest_47 : decode cX1_eldest 47 = .ok (.aload_n 0, 1) := by decide +kernel
theorem dX1_eldest_48 : decode cX1_eldest 48 = .ok (.getfield 11, 3) := by decide +kernel
theorem dX1_eldest_51 : decode cX1_eldest 51 = .ok (.iload 4, 2) := by decide +kernel
theorem dX1_eldest_53 : decode cX1_eldest 53 = .ok (.aaload, 1) := by decide +kernel
theorem dX1_eldest_54 : decode cX1_eldest 54 = .ok (.getfield 66, 3) := by decide +kernel
theorem dX1_eldest_57 : decode cX1_eldest 57 = .ok (.dstore_n 2, 1) := by decide +kernel
theorem dX1_eldest_58 : decode cX1_eldest 58 = .ok (.iinc 4 1, 3) := by decide +kernel
theorem dX1_eldest_61 : decode cX1_eldest 61 = .ok (.goto (-54), 3) := by decide +kernel
theorem dX1_eldest_64 : decode cX1_eldest 64 = .ok (.iload_n 1, 1) := by decide +kernel
theorem dX1_eldest_65 : decode cX1_eldest 65 = .ok (.ireturn, 1) := by decide +kernel
set_option maxRecDepth 20000 in
theorem ggX1_greatestAge_X1_eldest : GoodIn wsX1_greatestAge wsX1_eldest := goodIn_r _ [7, 8, 1, 2, 9, 10, 11, 12, 13, 14, 15, 16, 17, 18, 19, 20, 21, 22, 23, 24, 25] (by decide +kernel) (by decide +kernel)
set_option maxRecDepth 20000 in
theorem gX1_greatestAge_X1_eldest : GoodIn wsX1_greatestAge (wsV RX1 90 RX1 yX1_eldest wsX1_eldest) := goodIn_app (goodIn_of _ (by decide +kernel)) ggX1_greatestAge_X1_eldest
theorem dX1_greatestAge_0 : decode cX1_greatestAge 0 = .ok (.aload_n 0, 1) := by decide +kernel
theorem dX1_greatestAge_1 : decode cX1_greatestAge 1 = .ok (.invokevirtual 90, 3) := by decide +kernel
theorem dX1_greatestAge_4 : decode cX1_greatestAge 4 = .ok (.istore_n 1, 1) := by decide +kernel
theorem dX1_greatestAge_5 : decode cX1_greatestAge 5 = .ok (.iload_n 1, 1) := by decide +kernel
theorem dX1_greatestAge_6 : decode cX1_greatestAge 6 = .ok (.iconst (-1), 1) := by decide +kernel
theorem dX1_greatestAge_7 : decode cX1_greatestAge 7 = .ok (.if_icmp .ne 7, 3) := by decide +kernel
theorem dX1_greatestAge_10 : decode cX1_greatestAge 10 = .ok (.dconst 0, 1) := by decide +kernel
theorem dX1_greatestAge_11 : decode cX1_greatestAge 11 = .ok (.goto 12, 3) := by decide +kernel
theorem dX1_greatestAge_14 : decode cX1_greatestAge 14 = .ok (.aload_n 0, 1) := by decide +kernel
theorem dX1_greatestAge_15 : decode cX1_greatestAge 15 = .ok (.getfield 11, 3) := by decide +kernel
theorem dX1_greatestAge_18 : decode cX1_greatestAge 18 = .ok (.iload_n 1, 1) := by decide +kernel
theorem dX1_greatestAge_19 : decode cX1_greatestAge 19 = .ok (.aaload, 1) := by decide +kernel
theorem dX1_greatestAge_20 : decode cX1_greatestAge 20 = .ok (.getfield 66, 3) := by decide +kernel
theorem dX1_greatestAge_23 : decode cX1_greatestAge 23 = .ok (.dreturn, 1) := by decide +kernel
set_option maxRecDepth 20000 in
theorem ggX1_bottlesReady_X1_eldest : GoodIn wsX1_bottlesReady wsX1_eldest := goodIn_r _ [14, 15, 2, 3, 16, 17, 18, 19, 20, 21, 22, 23, 24, 25, 26, 27, 28, 29, 30, 31, 32] (by decide +kernel) (by decide +kernel)
set_option maxRecDepth 20000 in
theorem gX1_bottlesReady_X1_eldest : GoodIn wsX1_bottlesReady (wsV RX1 90 RX1 yX1_eldest wsX1_eldest) := goodIn_app (goodIn_of _ (by decide +kernel)) ggX1_bottlesReady_X1_eldest
theorem dX1_bottlesReady_0 : decode cX1_bottlesReady 0 = .ok (.aload_n 0, 1) := by decide +kernel
theorem dX1_bottlesReady_1 : decode cX1_bottlesReady 1 = .ok (.invokevirtual 90, 3) := by decide +kernel
theorem dX1_bottlesReady_4 : decode cX1_bottlesReady 4 = .ok (.istore_n 1, 1) := by decide +kernel
theorem dX1_bottlesReady_5 : decode cX1_bottlesReady 5 = .ok (.iload_n 1, 1) := by decide +kernel
theorem dX1_bottlesReady_6 : decode cX1_bottlesReady 6 = .ok (.iconst (-1), 1) := by decide +kernel
theorem dX1_bottlesReady_7 : decode cX1_bottlesReady 7 = .ok (.if_icmp .eq 11, 3) := by decide +kernel
theorem dX1_bottlesReady_10 : decode cX1_bottlesReady 10 = .ok (.iload_n 1, 1) := by decide +kernel
theorem dX1_bottlesReady_11 : decode cX1_bottlesReady 11 = .ok (.aload_n 0, 1) := by decide +kernel
theorem dX1_bottlesReady_12 : decode cX1_bottlesReady 12 = .ok (.getfield 25, 3) := by decide +kernel
theorem dX1_bottlesReady_15 : decode cX1_bottlesReady 15 = .ok (.if_icmp .eq 5, 3) := by decide +kernel
theorem dX1_bottlesReady_18 : decode cX1_bottlesReady 18 = .ok (.iconst 0, 1) := by decide +kernel
theorem dX1_bottlesReady_19 : decode cX1_bottlesReady 19 = .ok (.ireturn, 1) := by decide +kernel
theorem dX1_bottlesReady_20 : decode cX1_bottlesReady 20 = .ok (.aload_n 0, 1) := by decide +kernel
theorem dX1_bottlesReady_21 : decode cX1_bottlesReady 21 = .ok (.getfield 11, 3) := by decide +kernel
theorem dX1_bottlesReady_24 : decode cX1_bottlesReady 24 = .ok (.iload_n 1, 1) := by decide +kernel
theorem dX1_bottlesReady_25 : decode cX1_bottlesReady 25 = .ok (.aaload, 1) := by decide +kernel
theorem dX1_bottlesReady_26 : decode cX1_bottlesReady 26 = .ok (.astore_n 2, 1) := by decide +kernel
theorem dX1_bottlesReady_27 : decode cX1_bottlesReady 27 = .ok (.aload_n 2, 1) := by decide +kernel
theorem dX1_bottlesReady_28 : decode cX1_bottlesReady 28 = .ok (.getfield 66, 3) := by decide +kernel
theorem dX1_bottlesReady_31 : decode cX1_bottlesReady 31 = .ok (.ldc2_w 100, 3) := by decide +kernel
theorem dX1_bottlesReady_34 : decode cX1_bottlesReady 34 = .ok (.dcmp .g, 1) := by decide +kernel
theorem dX1_bottlesReady_35 : decode cX1_bottlesReady 35 = .ok (.ifCond .lt 14, 3) := by decide +kernel
theorem dX1_bottlesReady_38 : decode cX1_bottlesReady 38 = .ok (.aload_n 2, 1) := by decide +kernel
theorem dX1_bottlesReady_39 : decode cX1_bottlesReady 39 = .ok (.getfield 72, 3) := by decide +kernel
theorem dX1_bottlesReady_42 : decode cX1_bottlesReady 42 = .ok (.ldc2_w 102, 3) := by decide +kernel
theorem dX1_bottlesReady_45 : decode cX1_bottlesReady 45 = .ok (.dcmp .g, 1) := by decide +kernel
theorem dX1_bottlesReady_46 : decode cX1_bottlesReady 46 = .ok (.ifCond .ge 5, 3) := by decide +kernel
theorem dX1_bottlesReady_49 : decode cX1_bottlesReady 49 = .ok (.iconst 0, 1) := by decide +kernel
theorem dX1_bottlesReady_50 : decode cX1_bottlesReady 50 = .ok (.ireturn, 1) := by decide +kernel
theorem dX1_bottlesReady_51 : decode cX1_bottlesReady 51 = .ok (.aload_n 0, 1) := by decide +kernel
theorem dX1_bottlesReady_52 : decode cX1_bottlesReady 52 = .ok (.getfield 28, 3) := by decide +kernel
theorem dX1_bottlesReady_55 : decode cX1_bottlesReady 55 = .ok (.aload_n 2, 1) := by decide +kernel
theorem dX1_bottlesReady_56 : decode cX1_bottlesReady 56 = .ok (.getfield 49, 3) := by decide +kernel
theorem dX1_bottlesReady_59 : decode cX1_bottlesReady 59 = .ok (.dcmp .g, 1) := by decide +kernel
theorem dX1_bottlesReady_60 : decode cX1_bottlesReady 60 = .ok (.ifCond .ge 10, 3) := by decide +kernel
theorem dX1_bottlesReady_63 : decode cX1_bottlesReady 63 = .ok (.aload_n 0, 1) := by decide +kernel
theorem dX1_bottlesReady_64 : decode cX1_bottlesReady 64 = .ok (.getfield 28, 3) := by decide +kernel
theorem dX1_bottlesReady_67 : decode cX1_bottlesReady 67 = .ok (.goto 7, 3) := by decide +kernel
theorem dX1_bottlesReady_70 : decode cX1_bottlesReady 70 = .ok (.aload_n 2, 1) := by decide +kernel
theorem dX1_bottlesReady_71 : decode cX1_bottlesReady 71 = .ok (.getfield 49, 3) := by decide +kernel
theorem dX1_bottlesReady_74 : decode cX1_bottlesReady 74 = .ok (.dstore_n 3, 1) := by decide +kernel
theorem dX1_bottlesReady_75 : decode cX1_bottlesReady 75 = .ok (.dload_n 3, 1) := by decide +kernel
theorem dX1_bottlesReady_76 : decode cX1_bottlesReady 76 = .ok (.dconst 0, 1) := by decide +kernel
theorem dX1_bottlesReady_77 : decode cX1_bottlesReady 77 = .ok (.dcmp .l, 1) := by decide +kernel
theorem dX1_bottlesReady_78 : decode cX1_bottlesReady 78 = .ok (.ifCond .le 12, 3) := by decide +kernel
theorem dX1_bottlesReady_81 : decode cX1_bottlesReady 81 = .ok (.dload_n 3, 1) := by decide +kernel
theorem dX1_bottlesReady_82 : decode cX1_bottlesReady 82 = .ok (.ldc2_w 104, 3) := by decide +kernel
theorem dX1_bottlesReady_85 : decode cX1_bottlesReady 85 = .ok (.ddiv, 1) := by decide +kernel
theorem dX1_bottlesReady_86 : decode cX1_bottlesReady 86 = .ok (.d2i, 1) := by decide +kernel
theorem dX1_bottlesReady_87 : decode cX1_bottlesReady 87 = .ok (.goto 4, 3) := by decide +kernel
theorem dX1_bottlesReady_90 : decode cX1_bottlesReady 90 = .ok (.iconst 0, 1) := by decide +kernel
theorem dX1_bottlesReady_91 : decode cX1_bottlesReady 91 = .ok (.ireturn, 1) := by decide +kernel
set_option maxRecDepth 20000 in
theorem ggX1_takeBottles_X0_takeOut : GoodIn wsX1_takeBottles wsX0_takeOut := goodIn_r _ [9, 10, 11, 12, 13, 8, 14, 15, 16, 17, 23, 24, 25, 26, 27, 28] (by decide +kernel) (by decide +kernel)
set_option maxRecDepth 20000 in
theorem gX1_takeBottles_X0_takeOut : GoodIn wsX1_takeBottles (wsV RX1 75 RX0 yX0_takeOut wsX0_takeOut) := goodIn_app (goodIn_of _ (by decide +kernel)) ggX1_takeBottles_X0_takeOut
theorem dX1_takeBottles_0 : decode cX1_takeBottles 0 = .ok (.aload_n 0, 1) := by decide +kernel
theorem dX1_takeBottles_1 : decode cX1_takeBottles 1 = .ok (.getfield 25, 3) := by decide +kernel
theorem dX1_takeBottles_4 : decode cX1_takeBottles 4 = .ok (.iconst (-1), 1) := by decide +kernel
theorem dX1_takeBottles_5 : decode cX1_takeBottles 5 = .ok (.if_icmp .ne 4, 3) := by decide +kernel
theorem dX1_takeBottles_8 : decode cX1_takeBottles 8 = .ok (.return_, 1) := by decide +kernel
theorem dX1_takeBottles_9 : decode cX1_takeBottles 9 = .ok (.iload_n 1, 1) := by decide +kernel
theorem dX1_takeBottles_10 : decode cX1_takeBottles 10 = .ok (.i2d, 1) := by decide +kernel
theorem dX1_takeBottles_11 : decode cX1_takeBottles 11 = .ok (.ldc2_w 104, 3) := by decide +kernel
theorem dX1_takeBottles_14 : decode cX1_takeBottles 14 = .ok (.dmul, 1) := by decide +kernel
theorem dX1_takeBottles_15 : decode cX1_takeBottles 15 = .ok (.dstore_n 2, 1) := by decide +kernel
theorem dX1_takeBottles_16 : decode cX1_takeBottles 16 = .ok (.aload_n 0, 1) := by decide +kernel
theorem dX1_takeBottles_17 : decode cX1_takeBottles 17 = .ok (.aload_n 0, 1) := by decide +kernel
theorem dX1_takeBottles_18 : decode cX1_takeBottles 18 = .ok (.getfield 28, 3) := by decide +kernel
theorem dX1_takeBottles_21 : decode cX1_takeBottles 21 = .ok (.dload_n 2, 1) := by decide +kernel
theorem dX1_takeBottles_22 : decode cX1_takeBottles 22 = .ok (.dsub, 1) := by decide +kernel
theorem dX1_takeBottles_23 : decode cX1_takeBottles 23 = .ok (.putfield 28, 3) := by decide +kernel
theorem dX1_takeBottles_26 : decode cX1_takeBottles 26 = .ok (.aload_n 0, 1) := by decide +kernel
theorem dX1_takeBottles_27 : decode cX1_takeBottles 27 = .ok (.getfield 11, 3) := by decide +kernel
theorem dX1_takeBottles_30 : decode cX1_takeBottles 30 = .ok (.aload_n 0, 1) := by decide +kernel
theorem dX1_takeBottles_31 : decode cX1_takeBottles 31 = .ok (.getfield 25, 3) := by decide +kernel
theorem dX1_takeBottles_34 : decode cX1_takeBottles 34 = .ok (.aaload, 1) := by decide +kernel
theorem dX1_takeBottles_35 : decode cX1_takeBottles 35 = .ok (.dload_n 2, 1) := by decide +kernel
theorem dX1_takeBottles_36 : decode cX1_takeBottles 36 = .ok (.invokevirtual 75, 3) := by decide +kernel
theorem dX1_takeBottles_39 : decode cX1_takeBottles 39 = .ok (.return_, 1) := by decide +kernel
theorem dX1_allLitres_0 : decode cX1_allLitres 0 = .ok (.dconst 0, 1) := by decide +kernel
theorem dX1_allLitres_1 : decode cX1_allLitres 1 = .ok (.dstore_n 1, 1) := by decide +kernel
theorem dX1_allLitres_2 : decode cX1_allLitres 2 = .ok (.iconst 0, 1) := by decide +kernel
theorem dX1_allLitres_3 : decode cX1_allLitres 3 = .ok (.istore_n 3, 1) := by decide +kernel
theorem dX1_allLitres_4 : decode cX1_allLitres 4 = .ok (.iload_n 3, 1) := by decide +kernel
theorem dX1_allLitres_5 : decode cX1_allLitres 5 = .ok (.aload_n 0, 1) := by decide +kernel
theorem dX1_allLitres_6 : decode cX1_allLitres 6 = .ok (.getfield 18, 3) := by decide +kernel
theorem dX1_allLitres_9 : decode cX1_allLitres 9 = .ok (.if_icmp .ge 21, 3) := by decide +kernel
theorem dX1_allLitres_12 : decode cX1_allLitres 12 = .ok (.dload_n 1, 1) := by decide +kernel
theorem dX1_allLitres_13 : decode cX1_allLitres 13 = .ok (.aload_n 0, 1) := by decide +kernel
theorem dX1_allLitres_14 : decode cX1_allLitres 14 = .ok (.getfield 11, 3) := by decide +kernel
theorem dX1_allLitres_17 : decode cX1_allLitres 17 = .ok (.iload_n 3, 1) := by decide +kernel
theorem dX1_allLitres_18 : decode cX1_allLitres 18 = .ok (.aaload, 1) := by decide +kernel
theorem dX1_allLitres_19 : decode cX1_allLitres 19 = .ok (.getfield 49, 3) := by decide +kernel
theorem dX1_allLitres_22 : decode cX1_allLitres 22 = .ok (.dadd, 1) := by decide +kernel
theorem dX1_allLitres_23 : decode cX1_allLitres 23 = .ok (.dstore_n 1, 1) := by decide +kernel
theorem dX1_allLitres_24 : decode cX1_allLitres 24 = .ok (.iinc 3 1, 3) := by decide +kernel
theorem dX1_allLitres_27 : decode cX1_allLitres 27 = .ok (.goto (-23), 3) := by decide +kernel
theorem dX1_allLitres_30 : decode cX1_allLitres 30 = .ok (.dload_n 1, 1) := by decide +kernel
theorem dX1_allLitres_31 : decode cX1_allLitres 31 = .ok (.dreturn, 1) := by decide +kernel
theorem dX1_litresTimesAge_0 : decode cX1_litresTimesAge 0 = .ok (.dconst 0, 1) := by decide +kernel
theorem dX1_litresTimesAge_1 : decode cX1_litresTimesAge 1 = .ok (.dstore_n 1, 1) := by decide +kernel
theorem dX1_litresTimesAge_2 : decode cX1_litresTimesAge 2 = .ok (.iconst 0, 1) := by decide +kernel
theorem dX1_litresTimesAge_3 : decode cX1_litresTimesAge 3 = .ok (.istore_n 3, 1) := by decide +kernel
theorem dX1_litresTimesAge_4 : decode cX1_litresTimesAge 4 = .ok (.iload_n 3, 1) := by decide +kernel
theorem dX1_litresTimesAge_5 : decode cX1_litresTimesAge 5 = .ok (.aload_n 0, 1) := by decide +kernel
theorem dX1_litresTimesAge_6 : decode cX1_litresTimesAge 6 = .ok (.getfield 18, 3) := by decide +kernel
theorem dX1_litresTimesAge_9 : decode cX1_litresTimesAge 9 = .ok (.if_icmp .ge 31, 3) := by decide +kernel
theorem dX1_litresTimesAge_12 : decode cX1_litresTimesAge 12 = .ok (.dload_n 1, 1) := by decide +kernel
theorem dX1_litresTimesAge_13 : decode cX1_litresTimesAge 13 = .ok (.aload_n 0, 1) := by decide +kernel
theorem dX1_litresTimesAge_14 : decode cX1_litresTimesAge 14 = .ok (.getfield 11, 3) := by decide +kernel
theorem dX1_litresTimesAge_17 : decode cX1_litresTimesAge 17 = .ok (.iload_n 3, 1) := by decide +kernel
theorem dX1_litresTimesAge_18 : decode cX1_litresTimesAge 18 = .ok (.aaload, 1) := by decide +kernel
theorem dX1_litresTimesAge_19 : decode cX1_litresTimesAge 19 = .ok (.getfield 49, 3) := by decide +kernel
theorem dX1_litresTimesAge_22 : decode cX1_litresTimesAge 22 = .ok (.aload_n 0, 1) := by decide +kernel
theorem dX1_litresTimesAge_23 : decode cX1_litresTimesAge 23 = .ok (.getfield 11, 3) := by decide +kernel
theorem dX1_litresTimesAge_26 : decode cX1_litresTimesAge 26 = .ok (.iload_n 3, 1) := by decide +kernel
theorem dX1_litresTimesAge_27 : decode cX1_litresTimesAge 27 = .ok (.aaload, 1) := by decide +kernel
theorem dX1_litresTimesAge_28 : decode cX1_litresTimesAge 28 = .ok (.getfield 66, 3) := by decide +kernel
theorem dX1_litresTimesAge_31 : decode cX1_litresTimesAge 31 = .ok (.dmul, 1) := by decide +kernel
theorem dX1_litresTimesAge_32 : decode cX1_litresTimesAge 32 = .ok (.dadd, 1) := by decide +kernel
theorem dX1_litresTimesAge_33 : decode cX1_litresTimesAge 33 = .ok (.dstore_n 1, 1) := by decide +kernel
theorem dX1_litresTimesAge_34 : decode cX1_litresTimesAge 34 = .ok (.iinc 3 1, 3) := by decide +kernel
theorem dX1_litresTimesAge_37 : decode cX1_litresTimesAge 37 = .ok (.goto (-33), 3) := by decide +kernel
theorem dX1_litresTimesAge_40 : decode cX1_litresTimesAge 40 = .ok (.dload_n 1, 1) := by decide +kernel
theorem dX1_litresTimesAge_41 : decode cX1_litresTimesAge 41 = .ok (.dreturn, 1) := by decide +kernel
theorem dX1_litresTimesSugar_0 : decode cX1_litresTimesSugar 0 = .ok (.dconst 0, 1) := by decide +kernel
theorem dX1_litresTimesSugar_1 : decode cX1_litresTimesSugar 1 = .ok (.dstore_n 1, 1) := by decide +kernel
theorem dX1_litresTimesSugar_2 : decode cX1_litresTimesSugar 2 = .ok (.iconst 0, 1) := by decide +kernel
theorem dX1_litresTimesSugar_3 : decode cX1_litresTimesSugar 3 = .ok (.istore_n 3, 1) := by decide +kernel
theorem dX1_litresTimesSugar_4 : decode cX1_litresTimesSugar 4 = .ok (.iload_n 3, 1) := by decide +kernel
theorem dX1_litresTimesSugar_5 : decode cX1_litresTimesSugar 5 = .ok (.aload_n 0, 1) := by decide +kernel
theorem dX1_litresTimesSugar_6 : decode cX1_litresTimesSugar 6 = .ok (.getfield 18, 3) := by decide +kernel
theorem dX1_litresTimesSugar_9 : decode cX1_litresTimesSugar 9 = .ok (.if_icmp .ge 31, 3) := by decide +kernel
theorem dX1_litresTimesSugar_12 : decode cX1_litresTimesSugar 12 = .ok (.dload_n 1, 1) := by decide +kernel
theorem dX1_litresTimesSugar_13 : decode cX1_litresTimesSugar 13 = .ok (.aload_n 0, 1) := by decide +kernel
theorem dX1_litresTimesSugar_14 : decode cX1_litresTimesSugar 14 = .ok (.getfield 11, 3) := by decide +kernel
theorem dX1_litresTimesSugar_17 : decode cX1_litresTimesSugar 17 = .ok (.iload_n 3, 1) := by decide +kernel
theorem dX1_litresTimesSugar_18 : decode cX1_litresTimesSugar 18 = .ok (.aaload, 1) := by decide +kernel
theorem dX1_litresTimesSugar_19 : decode cX1_litresTimesSugar 19 = .ok (.getfield 49, 3) := by decide +kernel
theorem dX1_litresTimesSugar_22 : decode cX1_litresTimesSugar 22 = .ok (.aload_n 0, 1) := by decide +kernel
theorem dX1_litresTimesSugar_23 : decode cX1_litresTimesSugar 23 = .ok (.getfield 11, 3) := by decide +kernel
theorem dX1_litresTimesSugar_26 : decode cX1_litresTimesSugar 26 = .ok (.iload_n 3, 1) := by decide +kernel
theorem dX1_litresTimesSugar_27 : decode cX1_litresTimesSugar 27 = .ok (.aaload, 1) := by decide +kernel
theorem dX1_litresTimesSugar_28 : decode cX1_litresTimesSugar 28 = .ok (.getfield 72, 3) := by decide +kernel
theorem dX1_litresTimesSugar_31 : decode cX1_litresTimesSugar 31 = .ok (.dmul, 1) := by decide +kernel
theorem dX1_litresTimesSugar_32 : decode cX1_litresTimesSugar 32 = .ok (.dadd, 1) := by decide +kernel
theorem dX1_litresTimesSugar_33 : decode cX1_litresTimesSugar 33 = .ok (.dstore_n 1, 1) := by decide +kernel
theorem dX1_litresTimesSugar_34 : decode cX1_litresTimesSugar 34 = .ok (.iinc 3 1, 3) := by decide +kernel
theorem dX1_litresTimesSugar_37 : decode cX1_litresTimesSugar 37 = .ok (.goto (-33), 3) := by decide +kernel
theorem dX1_litresTimesSugar_40 : decode cX1_litresTimesSugar 40 = .ok (.dload_n 1, 1) := by decide +kernel
theorem dX1_litresTimesSugar_41 : decode cX1_litresTimesSugar 41 = .ok (.dreturn, 1) := by decide +kernel
set_option maxRecDepth 20000 in
theorem ggX2_init_X1_init : GoodIn wsX2_init wsX1_init := goodIn_r _ [14, 15, 2, 3, 16, 17, 18, 19, 20, 21, 22, 23, 24, 25, 26, 27, 28, 29, 30, 31, 36, 37, 38, 39, 40, 41] (by decide +kernel) (by decide +kernel)
set_option maxRecDepth 20000 in
theorem gX2_init_X1_init : GoodIn wsX2_init (wsX1_init) := ggX2_init_X1_init
theorem dX2_init_0 : decode cX2_init 0 = .ok (.aload_n 0, 1) := by decide +kernel
theorem dX2_init_1 : decode cX2_init 1 = .ok (.invokespecial 1, 3) := by decide +kernel
theorem dX2_init_4 : decode cX2_init 4 = .ok (.aload_n 0, 1) := by decide +kernel
theorem dX2_init_5 : decode cX2_init 5 = .ok (.new 7, 3) := by decide +kernel
theorem dX2_init_8 : decode cX2_init 8 = .ok (.dup, 1) := by decide +kernel
theorem dX2_init_9 : decode cX2_init 9 = .ok (.invokespecial 9, 3) := by decide +kernel
theorem dX2_init_12 : decode cX2_init 12 = .ok (.putfield 10, 3) := by decide +kernel
theorem dX2_init_15 : decode cX2_init 15 = .ok (.aload_n 0, 1) := by decide +kernel
theorem dX2_init_16 : decode cX2_init 16 = .ok (.new 7, 3) := by decide +kernel
theorem dX2_init_19 : decode cX2_init 19 = .ok (.dup, 1) := by decide +kernel
theorem dX2_init_20 : decode cX2_init 20 = .ok (.invokespecial 9, 3) := by decide +kernel
theorem dX2_init_23 : decode cX2_init 23 = .ok (.putfield 16, 3) := by decide +kernel
theorem dX2_init_26 : decode cX2_init 26 = .ok (.aload_n 0, 1) := by decide +kernel
theorem dX2_init_27 : decode cX2_init 27 = .ok (.iconst 3, 1) := by decide +kernel
theorem dX2_init_28 : decode cX2_init 28 = .ok (.newarray .int, 2) := by decide +kernel
theorem dX2_init_30 : decode cX2_init 30 = .ok (.putfield 19, 3) := by decide +kernel
theorem dX2_init_33 : decode cX2_init 33 = .ok (.aload_n 0, 1) := by decide +kernel
theorem dX2_init_34 : decode cX2_init 34 = .ok (.iconst 0, 1) := by decide +kernel
theorem dX2_init_35 : decode cX2_init 35 = .ok (.putfield 23, 3) := by decide +kernel
theorem dX2_init_38 : decode cX2_init 38 = .ok (.return_, 1) := by decide +kernel
set_option maxRecDepth 20000 in
theorem ggX2_add_X1_largestNext : GoodIn wsX2_add wsX1_largestNext := goodIn_r _ [10, 11, 12, 13, 37, 38, 39, 40, 41, 42, 43, 44, 45, 46, 47] (by decide +kernel) (by decide +kernel)
set_option maxRecDepth 20000 in
theorem gX2_add_X1_largestNext : GoodIn wsX2_add (wsV RX2 34 RX1 yX1_largestNext wsX1_largestNext) := goodIn_app (goodIn_of _ (by decide +kernel)) ggX2_add_X1_largestNext
set_option maxRecDepth 20000 in
theorem ggX2_add_X1_isComplete : GoodIn wsX2_add wsX1_isComplete := goodIn_r _ [17, 11, 12, 37, 38, 39, 40, 41] (by decide +kernel) (by decide +kernel)
set_option maxRecDepth 20000 in
theorem gX2_add_X1_isComplete : GoodIn wsX2_add (wsV RX2 40 RX1 yX1_isComplete wsX1_isComplete) := goodIn_app (goodIn_of _ (by decide +kernel)) ggX2_add_X1_isComplete
set_option maxRecDepth 20000 in
theorem ggX2_add_X1_putBehind : GoodIn wsX2_add wsX1_putBehind := goodIn_r _ [21, 12, 11, 22, 13, 23, 15, 16, 9, 17, 24, 25, 26, 27, 28, 29, 30, 31, 32, 37, 38, 39, 40, 41, 42, 43, 44, 45, 46, 47] (by decide +kernel) (by decide +kernel)
set_option maxRecDepth 20000 in
theorem gX2_add_X1_putBehind : GoodIn wsX2_add (wsV RX2 49 RX1 yX1_putBehind wsX1_putBehind) := goodIn_app (goodIn_of _ (by decide +kernel)) ggX2_add_X1_putBehind
theorem dX2_add_0 : decode cX2_add 0 = .ok (.iload_n 1, 1) := by decide +kernel
theorem dX2_add_1 : decode cX2_add 1 = .ok (.ifCond .lt 8, 3) := by decide +kernel
theorem dX2_add_4 : decode cX2_add 4 = .ok (.iload_n 1, 1) := by decide +kernel
theorem dX2_add_5 : decode cX2_add 5 = .ok (.iconst 4, 1) := by decide +kernel
theorem dX2_add_6 : decode cX2_add 6 = .ok (.if_icmp .lt 13, 3) := by decide +kernel
theorem dX2_add_9 : decode cX2_add 9 = .ok (.new 27, 3) := by decide +kernel
theorem dX2_add_12 : decode cX2_add 12 = .ok (.dup, 1) := by decide +kernel
theorem dX2_add_13 : decode cX2_add 13 = .ok (.ldc 29, 2) := by decide +kernel
theorem dX2_add_15 : decode cX2_add 15 = .ok (.invokespecial 31, 3) := by decide +kernel
theorem dX2_add_18 : decode cX2_add 18 = .ok (.athrow, 1) := by decide +kernel
theorem dX2_add_19 : decode cX2_add 19 = .ok (.iload_n 2, 1) := by decide +kernel
theorem dX2_add_20 : decode cX2_add 20 = .ok (.bipush 10, 2) := by decide +kernel
theorem dX2_add_22 : decode cX2_add 22 = .ok (.if_icmp .lt 14, 3) := by decide +kernel
theorem dX2_add_25 : decode cX2_add 25 = .ok (.iload_n 2, 1) := by decide +kernel
theorem dX2_add_26 : decode cX2_add 26 = .ok (.aload_n 0, 1) := by decide +kernel
theorem dX2_add_27 : decode cX2_add 27 = .ok (.getfield 10, 3) := by decide +kernel
theorem dX2_add_30 : decode cX2_add 30 = .ok (.invokevirtual 34, 3) := by decide +kernel
theorem dX2_add_33 : decode cX2_add 33 = .ok (.if_icmp .le 13, 3) := by decide +kernel
theorem dX2_add_36 : decode cX2_add 36 = .ok (.new 27, 3) := by decide +kernel
theorem dX2_add_39 : decode cX2_add 39 = .ok (.dup, 1) := by decide +kernel
theorem dX2_add_40 : decode cX2_add 40 = .ok (.ldc 38, 2) := by decide +kernel
theorem dX2_add_42 : decode cX2_add 42 = .ok (.invokespecial 31, 3) := by decide +kernel
theorem dX2_add_45 : decode cX2_add 45 = .ok (.athrow, 1) := by decide +kernel
theorem dX2_add_46 : decode cX2_add 46 = .ok (.aload_n 0, 1) := by decide +kernel
theorem dX2_add_47 : decode cX2_add 47 = .ok (.getfield 10, 3) := by decide +kernel
theorem dX2_add_50 : decode cX2_add 50 = .ok (.invokevirtual 40, 3) := by decide +kernel
theorem dX2_add_53 : decode cX2_add 53 = .ok (.ifCond .eq 13, 3) := by decide +kernel
theorem dX2_add_56 : decode cX2_add 56 = .ok (.new 44, 3) := by decide +kernel
theorem dX2_add_59 : decode cX2_add 59 = .ok (.dup, 1) := by decide +kernel
theorem dX2_add_60 : decode cX2_add 60 = .ok (.ldc 46, 2) := by decide +kernel
theorem dX2_add_62 : decode cX2_add 62 = .ok (.invokespecial 48, 3) := by decide +kernel
theorem dX2_add_65 : decode cX2_add 65 = .ok (.athrow, 1) := by decide +kernel
theorem dX2_add_66 : decode cX2_add 66 = .ok (.aload_n 0, 1) := by decide +kernel
theorem dX2_add_67 : decode cX2_add 67 = .ok (.getfield 10, 3) := by decide +kernel
theorem dX2_add_70 : decode cX2_add 70 = .ok (.iload_n 1, 1) := by decide +kernel
theorem dX2_add_71 : decode cX2_add 71 = .ok (.iload_n 2, 1) := by decide +kernel
theorem dX2_add_72 : decode cX2_add 72 = .ok (.invokevirtual 49, 3) := by decide +kernel
theorem dX2_add_75 : decode cX2_add 75 = .ok (.ireturn, 1) := by decide +kernel
set_option maxRecDepth 20000 in
theorem ggX2_fill_X1_pourMust : GoodIn wsX2_fill wsX1_pourMust := goodIn_r _ [8, 9, 10, 11, 12, 13, 14, 15, 16, 17, 18, 19, 20, 21, 22, 23, 24, 25, 30, 31, 32, 33, 34, 35, 36, 37, 38, 39, 40] (by decide +kernel) (by decide +kernel)
set_option maxRecDepth 20000 in
theorem gX2_fill_X1_pourMust : GoodIn wsX2_fill (wsV RX2 55 RX1 yX1_pourMust wsX1_pourMust) := goodIn_app (goodIn_of _ (by decide +kernel)) ggX2_fill_X1_pourMust
theorem dX2_fill_0 : decode cX2_fill 0 = .ok (.iload_n 1, 1) := by decide +kernel
theorem dX2_fill_1 : decode cX2_fill 1 = .ok (.iconst 1, 1) := by decide +kernel
theorem dX2_fill_2 : decode cX2_fill 2 = .ok (.if_icmp .lt 9, 3) := by decide +kernel
theorem dX2_fill_5 : decode cX2_fill 5 = .ok (.iload_n 1, 1) := by decide +kernel
theorem dX2_fill_6 : decode cX2_fill 6 = .ok (.bipush 100, 2) := by decide +kernel
theorem dX2_fill_8 : decode cX2_fill 8 = .ok (.if_icmp .le 13, 3) := by decide +kernel
theorem dX2_fill_11 : decode cX2_fill 11 = .ok (.new 27, 3) := by decide +kernel
theorem dX2_fill_14 : decode cX2_fill 14 = .ok (.dup, 1) := by decide +kernel
theorem dX2_fill_15 : decode cX2_fill 15 = .ok (.ldc 53, 2) := by decide +kernel
theorem dX2_fill_17 : decode cX2_fill 17 = .ok (.invokespecial 31, 3) := by decide +kernel
theorem dX2_fill_20 : decode cX2_fill 20 = .ok (.athrow, 1) := by decide +kernel
theorem dX2_fill_21 : decode cX2_fill 21 = .ok (.aload_n 0, 1) := by decide +kernel
theorem dX2_fill_22 : decode cX2_fill 22 = .ok (.getfield 10, 3) := by decide +kernel
theorem dX2_fill_25 : decode cX2_fill 25 = .ok (.iload_n 1, 1) := by decide +kernel
theorem dX2_fill_26 : decode cX2_fill 26 = .ok (.invokevirtual 55, 3) := by decide +kernel
theorem dX2_fill_29 : decode cX2_fill 29 = .ok (.dreturn, 1) := by decide +kernel
set_option maxRecDepth 20000 in
theorem ggX2_topUp_X1_passDown : GoodIn wsX2_topUp wsX1_passDown := goodIn_r _ [6, 7, 8, 9, 10, 5, 11, 12, 13, 14, 15, 16, 17, 18, 19, 20, 21, 22, 23, 24, 25, 26, 27, 28, 29, 30, 31, 32, 33, 34, 35, 36, 37, 38, 43, 44, 45, 46, 47, 48, 49, 50, 51, 52, 53] (by decide +kernel) (by decide +kernel)
set_option maxRecDepth 20000 in
theorem gX2_topUp_X1_passDown : GoodIn wsX2_topUp (wsV RX2 59 RX1 yX1_passDown wsX1_passDown) := goodIn_app (goodIn_of _ (by decide +kernel)) ggX2_topUp_X1_passDown
theorem dX2_topUp_0 : decode cX2_topUp 0 = .ok (.aload_n 0, 1) := by decide +kernel
theorem dX2_topUp_1 : decode cX2_topUp 1 = .ok (.getfield 10, 3) := by decide +kernel
theorem dX2_topUp_4 : decode cX2_topUp 4 = .ok (.invokevirtual 59, 3) := by decide +kernel
theorem dX2_topUp_7 : decode cX2_topUp 7 = .ok (.dreturn, 1) := by decide +kernel
set_option maxRecDepth 20000 in
theorem ggX2_year_X1_ageAll : GoodIn wsX2_year wsX1_ageAll := goodIn_r _ [7, 8, 9, 10, 11, 12, 13, 14, 15, 16, 6, 17, 18, 19, 20, 21, 22, 23, 24, 25, 26, 27, 28, 29, 30, 31, 32, 33, 34, 35, 36, 37, 38, 39, 40, 41, 42, 43, 44, 45, 46, 47, 48, 49, 50, 51, 52, 53, 54, 55, 56, 57, 58, 59, 60, 61, 62, 63, 64, 65, 66, 71, 72, 73, 74, 75, 76, 77, 78, 79, 80, 81] (by decide +kernel) (by decide +kernel)
set_option maxRecDepth 20000 in
theorem gX2_year_X1_ageAll : GoodIn wsX2_year (wsV RX2 63 RX1 yX1_ageAll wsX1_ageAll) := goodIn_app (goodIn_of _ (by decide +kernel)) ggX2_year_X1_ageAll
theorem dX2_year_0 : decode cX2_year 0 = .ok (.aload_n 0, 1) := by decide +kernel
theorem dX2_year_1 : decode cX2_year 1 = .ok (.dup, 1) := by decide +kernel
theorem dX2_year_2 : decode cX2_year 2 = .ok (.getfield 23, 3) := by decide +kernel
theorem dX2_year_5 : decode cX2_year 5 = .ok (.iconst 1, 1) := by decide +kernel
theorem dX2_year_6 : decode cX2_year 6 = .ok (.iadd, 1) := by decide +kernel
theorem dX2_year_7 : decode cX2_year 7 = .ok (.putfield 23, 3) := by decide +kernel
theorem dX2_year_10 : decode cX2_year 10 = .ok (.aload_n 0, 1) := by decide +kernel
theorem dX2_year_11 : decode cX2_year 11 = .ok (.getfield 10, 3) := by decide +kernel
theorem dX2_year_14 : decode cX2_year 14 = .ok (.invokevirtual 63, 3) := by decide +kernel
theorem dX2_year_17 : decode cX2_year 17 = .ok (.dreturn, 1) := by decide +kernel
set_option maxRecDepth 20000 in
theorem ggX2_draw_X1_bottlesReady : GoodIn wsX2_draw wsX1_bottlesReady := goodIn_r _ [9, 10, 11, 12, 13, 14, 15, 16, 17, 18, 19, 20, 21, 8, 22, 23, 24, 25, 26, 27, 28, 29, 59, 60, 61, 62, 63, 64, 65, 66, 67, 68, 69] (by decide +kernel) (by decide +kernel)
set_option maxRecDepth 20000 in
theorem gX2_draw_X1_bottlesReady : GoodIn wsX2_draw (wsV RX2 68 RX1 yX1_bottlesReady wsX1_bottlesReady) := goodIn_app (goodIn_of _ (by decide +kernel)) ggX2_draw_X1_bottlesReady
set_option maxRecDepth 20000 in
theorem ggX2_draw_X1_greatestAge : GoodIn wsX2_draw wsX1_greatestAge := goodIn_r _ [33, 11, 12, 19, 20, 21, 8, 22, 23, 24, 25, 26, 27, 28, 29, 59, 60, 61, 62, 63, 64, 65, 66, 67, 68, 69] (by decide +kernel) (by decide +kernel)
set_option maxRecDepth 20000 in
theorem gX2_draw_X1_greatestAge : GoodIn wsX2_draw (wsV RX2 71 RX1 yX1_greatestAge wsX1_greatestAge) := goodIn_app (goodIn_of _ (by decide +kernel)) ggX2_draw_X1_greatestAge
set_option maxRecDepth 20000 in
theorem ggX2_draw_X2_kindAt : GoodIn wsX2_draw wsX2_kindAt := goodIn_r _ [37, 38, 39] (by decide +kernel) (by decide +kernel)
set_option maxRecDepth 20000 in
theorem gX2_draw_X2_kindAt : GoodIn wsX2_draw (va_wsS RX2 74 yX2_kindAt wsX2_kindAt) := goodIn_app (goodIn_of _ (by decide +kernel)) ggX2_draw_X2_kindAt
set_option maxRecDepth 20000 in
theorem ggX2_draw_X1_takeBottles : GoodIn wsX2_draw wsX1_takeBottles := goodIn_r _ [43, 10, 18, 16, 11, 44, 45, 46, 27, 47, 29, 48, 49, 50, 51, 52, 53, 54, 59, 60, 61, 62, 63, 64, 65, 66, 67, 68, 69] (by decide +kernel) (by decide +kernel)
set_option maxRecDepth 20000 in
theorem gX2_draw_X1_takeBottles : GoodIn wsX2_draw (wsV RX2 78 RX1 yX1_takeBottles wsX1_takeBottles) := goodIn_app (goodIn_of _ (by decide +kernel)) ggX2_draw_X1_takeBottles
theorem dX2_draw_0 : decode cX2_draw 0 = .ok (.iload_n 1, 1) := by decide +kernel
theorem dX2_draw_1 : decode cX2_draw 1 = .ok (.iconst 1, 1) := by decide +kernel
theorem dX2_draw_2 : decode cX2_draw 2 = .ok (.if_icmp .lt 10, 3) := by decide +kernel
theorem dX2_draw_5 : decode cX2_draw 5 = .ok (.iload_n 1, 1) := by decide +kernel
theorem dX2_draw_6 : decode cX2_draw 6 = .ok (.sipush 1000, 3) := by decide +kernel
theorem dX2_draw_9 : decode cX2_draw 9 = .ok (.if_icmp .le 13, 3) := by decide +kernel
theorem dX2_draw_12 : decode cX2_draw 12 = .ok (.new 27, 3) := by decide +kernel
theorem dX2_draw_15 : decode cX2_draw 15 = .ok (.dup, 1) := by decide +kernel
theorem dX2_draw_16 : decode cX2_draw 16 = .ok (.ldc 66, 2) := by decide +kernel
theorem dX2_draw_18 : decode cX2_draw 18 = .ok (.invokespecial 31, 3) := by decide +kernel
theorem dX2_draw_21 : decode cX2_draw 21 = .ok (.athrow, 1) := by decide +kernel
theorem dX2_draw_22 : decode cX2_draw 22 = .ok (.aload_n 0, 1) := by decide +kernel
theorem dX2_draw_23 : decode cX2_draw 23 = .ok (.getfield 10, 3) := by decide +kernel
theorem dX2_draw_26 : decode cX2_draw 26 = .ok (.invokevirtual 68, 3) := by decide +kernel
theorem dX2_draw_29 : decode cX2_draw 29 = .ok (.istore_n 2, 1) := by decide +kernel
theorem dX2_draw_30 : decode cX2_draw 30 = .ok (.iload_n 1, 1) := by decide +kernel
theorem dX2_draw_31 : decode cX2_draw 31 = .ok (.iload_n 2, 1) := by decide +kernel
theorem dX2_draw_32 : decode cX2_draw 32 = .ok (.if_icmp .ge 7, 3) := by decide +kernel
theorem dX2_draw_35 : decode cX2_draw 35 = .ok (.iload_n 1, 1) := by decide +kernel
theorem dX2_draw_36 : decode cX2_draw 36 = .ok (.goto 4, 3) := by decide +kernel
theorem dX2_draw_39 : decode cX2_draw 39 = .ok (.iload_n 2, 1) := by decide +kernel
theorem dX2_draw_40 : decode cX2_draw 40 = .ok (.istore_n 3, 1) := by decide +kernel
theorem dX2_draw_41 : decode cX2_draw 41 = .ok (.iload_n 3, 1) := by decide +kernel
theorem dX2_draw_42 : decode cX2_draw 42 = .ok (.ifCond .le 30, 3) := by decide +kernel
theorem dX2_draw_45 : decode cX2_draw 45 = .ok (.aload_n 0, 1) := by decide +kernel
theorem dX2_draw_46 : decode cX2_draw 46 = .ok (.getfield 19, 3) := by decide +kernel
theorem dX2_draw_49 : decode cX2_draw 49 = .ok (.aload_n 0, 1) := by decide +kernel
theorem dX2_draw_50 : decode cX2_draw 50 = .ok (.getfield 10, 3) := by decide +kernel
theorem dX2_draw_53 : decode cX2_draw 53 = .ok (.invokevirtual 71, 3) := by decide +kernel
theorem dX2_draw_56 : decode cX2_draw 56 = .ok (.invokestatic 74, 3) := by decide +kernel
theorem dX2_draw_59 : decode cX2_draw 59 = .ok (.dup2, 1) := by decide +kernel
theorem dX2_draw_60 : decode cX2_draw 60 = .ok (.iaload, 1) := by decide +kernel
theorem dX2_draw_61 : decode cX2_draw 61 = .ok (.iload_n 3, 1) := by decide +kernel
theorem dX2_draw_62 : decode cX2_draw 62 = .ok (.iadd, 1) := by decide +kernel
theorem dX2_draw_63 : decode cX2_draw 63 = .ok (.iastore, 1) := by decide +kernel
theorem dX2_draw_64 : decode cX2_draw 64 = .ok (.aload_n 0, 1) := by decide +kernel
theorem dX2_draw_65 : decode cX2_draw 65 = .ok (.getfield 10, 3) := by decide +kernel
theorem dX2_draw_68 : decode cX2_draw 68 = .ok (.iload_n 3, 1) := by decide +kernel
theorem dX2_draw_69 : decode cX2_draw 69 = .ok (.invokevirtual 78, 3) := by decide +kernel
theorem dX2_draw_72 : decode cX2_draw 72 = .ok (.iload_n 3, 1) := by decide +kernel
theorem dX2_draw_73 : decode cX2_draw 73 = .ok (.ireturn, 1) := by decide +kernel
set_option maxRecDepth 20000 in
theorem ggX2_pourAway_X2_barrelNumbered : GoodIn wsX2_pourAway wsX2_barrelNumbered := goodIn_ca (goodIn_r _ [6, 7, 8, 9, 10, 11, 27, 28, 29, 30, 31, 32, 33, 34, 35] (by decide +kernel) (by decide +kernel)) (goodIn_sub (fun _ h => List.mem_cons_of_mem _ (List.mem_append_right _ h)) (by decide +kernel))
set_option maxRecDepth 20000 in
theorem gX2_pourAway_X2_barrelNumbered : GoodIn wsX2_pourAway (wsV RX2 82 RX2 yX2_barrelNumbered wsX2_barrelNumbered) := goodIn_app (goodIn_of _ (by decide +kernel)) ggX2_pourAway_X2_barrelNumbered
set_option maxRecDepth 20000 in
theorem ggX2_pourAway_X0_clear : GoodIn wsX2_pourAway wsX0_clear := goodIn_r _ [16, 17, 18, 19, 20, 21, 22, 23, 24, 25, 26] (by decide +kernel) (by decide +kernel)
set_option maxRecDepth 20000 in
theorem gX2_pourAway_X0_clear : GoodIn wsX2_pourAway (wsV RX2 92 RX0 yX0_clear wsX0_clear) := goodIn_app (goodIn_of _ (by decide +kernel)) ggX2_pourAway_X0_clear
theorem dX2_pourAway_0 : decode cX2_pourAway 0 = .ok (.aload_n 0, 1) := by decide +kernel
theorem dX2_pourAway_1 : decode cX2_pourAway 1 = .ok (.iload_n 1, 1) := by decide +kernel
theorem dX2_pourAway_2 : decode cX2_pourAway 2 = .ok (.invokevirtual 82, 3) := by decide +kernel
theorem dX2_pourAway_5 : decode cX2_pourAway 5 = .ok (.astore_n 2, 1) := by decide +kernel
theorem dX2_pourAway_6 : decode cX2_pourAway 6 = .ok (.aload_n 2, 1) := by decide +kernel
theorem dX2_pourAway_7 : decode cX2_pourAway 7 = .ok (.getfield 86, 3) := by decide +kernel
theorem dX2_pourAway_10 : decode cX2_pourAway 10 = .ok (.dstore_n 3, 1) := by decide +kernel
theorem dX2_pourAway_11 : decode cX2_pourAway 11 = .ok (.aload_n 2, 1) := by decide +kernel
theorem dX2_pourAway_12 : decode cX2_pourAway 12 = .ok (.invokevirtual 92, 3) := by decide +kernel
theorem dX2_pourAway_15 : decode cX2_pourAway 15 = .ok (.dload_n 3, 1) := by decide +kernel
theorem dX2_pourAway_16 : decode cX2_pourAway 16 = .ok (.dreturn, 1) := by decide +kernel
theorem dX2_setWarmth_0 : decode cX2_setWarmth 0 = .ok (.iload_n 1, 1) := by decide +kernel
theorem dX2_setWarmth_1 : decode cX2_setWarmth 1 = .ok (.ifCond .lt 9, 3) := by decide +kernel
theorem dX2_setWarmth_4 : decode cX2_setWarmth 4 = .ok (.iload_n 1, 1) := by decide +kernel
theorem dX2_setWarmth_5 : decode cX2_setWarmth 5 = .ok (.bipush 40, 2) := by decide +kernel
theorem dX2_setWarmth_7 : decode cX2_setWarmth 7 = .ok (.if_icmp .le 13, 3) := by decide +kernel
theorem dX2_setWarmth_10 : decode cX2_setWarmth 10 = .ok (.new 27, 3) := by decide +kernel
theorem dX2_setWarmth_13 : decode cX2_setWarmth 13 = .ok (.dup, 1) := by decide +kernel
theorem dX2_setWarmth_14 : decode cX2_setWarmth 14 = .ok (.ldc 95, 2) := by decide +kernel
theorem dX2_setWarmth_16 : decode cX2_setWarmth 16 = .ok (.invokespecial 31, 3) := by decide +kernel
theorem dX2_setWarmth_19 : decode cX2_setWarmth 19 = .ok (.athrow, 1) := by decide +kernel
theorem dX2_setWarmth_20 : decode cX2_setWarmth 20 = .ok (.aload_n 0, 1) := by decide +kernel
theorem dX2_setWarmth_21 : decode cX2_setWarmth 21 = .ok (.getfield 10, 3) := by decide +kernel
theorem dX2_setWarmth_24 : decode cX2_setWarmth 24 = .ok (.iload_n 1, 1) := by decide +kernel
theorem dX2_setWarmth_25 : decode cX2_setWarmth 25 = .ok (.putfield 97, 3) := by decide +kernel
theorem dX2_setWarmth_28 : decode cX2_setWarmth 28 = .ok (.return_, 1) := by decide +kernel
theorem dX2_barrels_0 : decode cX2_barrels 0 = .ok (.aload_n 0, 1) := by decide +kernel
theorem dX2_barrels_1 : decode cX2_barrels 1 = .ok (.getfield 10, 3) := by decide +kernel
theorem dX2_barrels_4 : decode cX2_barrels 4 = .ok (.getfield 100, 3) := by decide +kernel
theorem dX2_barrels_7 : decode cX2_barrels 7 = .ok (.ireturn, 1) := by decide +kernel
set_option maxRecDepth 20000 in
theorem ggX2_litresIn_X2_barrelNumbered : GoodIn wsX2_litresIn wsX2_barrelNumbered := goodIn_ca (goodIn_r _ [6, 7, 8, 9, 10, 11, 18, 19, 20, 21, 22, 23, 24, 25, 26] (by decide +kernel) (by decide +kernel)) (goodIn_sub (fun _ h => List.mem_cons_of_mem _ (List.mem_append_right _ h)) (by decide +kernel))
set_option maxRecDepth 20000 in
theorem gX2_litresIn_X2_barrelNumbered : GoodIn wsX2_litresIn (wsV RX2 82 RX2 yX2_barrelNumbered wsX2_barrelNumbered) := goodIn_app (goodIn_of _ (by decide +kernel)) ggX2_litresIn_X2_barrelNumbered
theorem dX2_litresIn_0 : decode cX2_litresIn 0 = .ok (.aload_n 0, 1) := by decide +kernel
theorem dX2_litresIn_1 : decode cX2_litresIn 1 = .ok (.iload_n 1, 1) := by decide +kernel
theorem dX2_litresIn_2 : decode cX2_litresIn 2 = .ok (.invokevirtual 82, 3) := by decide +kernel
theorem dX2_litresIn_5 : decode cX2_litresIn 5 = .ok (.getfield 86, 3) := by decide +kernel
theorem dX2_litresIn_8 : decode cX2_litresIn 8 = .ok (.dreturn, 1) := by decide +kernel
set_option maxRecDepth 20000 in
theorem ggX2_ageOf_X2_barrelNumbered : GoodIn wsX2_ageOf wsX2_barrelNumbered := goodIn_ca (goodIn_r _ [6, 7, 8, 9, 10, 11, 18, 19, 20, 21, 22, 23, 24, 25, 26] (by decide +kernel) (by decide +kernel)) (goodIn_sub (fun _ h => List.mem_cons_of_mem _ (List.mem_append_right _ h)) (by decide +kernel))
set_option maxRecDepth 20000 in
theorem gX2_ageOf_X2_barrelNumbered : GoodIn wsX2_ageOf (wsV RX2 82 RX2 yX2_barrelNumbered wsX2_barrelNumbered) := goodIn_app (goodIn_of _ (by decide +kernel)) ggX2_ageOf_X2_barrelNumbered
theorem dX2_ageOf_0 : decode cX2_ageOf 0 = .ok (.aload_n 0, 1) := by decide +kernel
theorem dX2_ageOf_1 : decode cX2_ageOf 1 = .ok (.iload_n 1, 1) := by decide +kernel
theorem dX2_ageOf_2 : decode cX2_ageOf 2 = .ok (.invokevirtual 82, 3) := by decide +kernel
theorem dX2_ageOf_5 : decode cX2_ageOf 5 = .ok (.getfield 103, 3) := by decide +kernel
theorem dX2_ageOf_8 : decode cX2_ageOf 8 = .ok (.dreturn, 1) := by decide +kernel
set_option maxRecDepth 20000 in
theorem ggX2_acidOf_X2_barrelNumbered : GoodIn wsX2_acidOf wsX2_barrelNumbered := goodIn_ca (goodIn_r _ [6, 7, 8, 9, 10, 11, 18, 19, 20, 21, 22, 23, 24, 25, 26] (by decide +kernel) (by decide +kernel)) (goodIn_sub (fun _ h => List.mem_cons_of_mem _ (List.mem_append_right _ h)) (by decide +kernel))
set_option maxRecDepth 20000 in
theorem gX2_acidOf_X2_barrelNumbered : GoodIn wsX2_acidOf (wsV RX2 82 RX2 yX2_barrelNumbered wsX2_barrelNumbered) := goodIn_app (goodIn_of _ (by decide +kernel)) ggX2_acidOf_X2_barrelNumbered
theorem dX2_acidOf_0 : decode cX2_acidOf 0 = .ok (.aload_n 0, 1) := by decide +kernel
theorem dX2_acidOf_1 : decode cX2_acidOf 1 = .ok (.iload_n 1, 1) := by decide +kernel
theorem dX2_acidOf_2 : decode cX2_acidOf 2 = .ok (.invokevirtual 82, 3) := by decide +kernel
theorem dX2_acidOf_5 : decode cX2_acidOf 5 = .ok (.getfield 106, 3) := by decide +kernel
theorem dX2_acidOf_8 : decode cX2_acidOf 8 = .ok (.dreturn, 1) := by decide +kernel
set_option maxRecDepth 20000 in
theorem ggX2_sugarOf_X2_barrelNumbered : GoodIn wsX2_sugarOf wsX2_barrelNumbered := goodIn_ca (goodIn_r _ [6, 7, 8, 9, 10, 11, 18, 19, 20, 21, 22, 23, 24, 25, 26] (by decide +kernel) (by decide +kernel)) (goodIn_sub (fun _ h => List.mem_cons_of_mem _ (List.mem_append_right _ h)) (by decide +kernel))
set_option maxRecDepth 20000 in
theorem gX2_sugarOf_X2_barrelNumbered : GoodIn wsX2_sugarOf (wsV RX2 82 RX2 yX2_barrelNumbered wsX2_barrelNumbered) := goodIn_app (goodIn_of _ (by decide +kernel)) ggX2_sugarOf_X2_barrelNumbered
theorem dX2_sugarOf_0 : decode cX2_sugarOf 0 = .ok (.aload_n 0, 1) := by decide +kernel
theorem dX2_sugarOf_1 : decode cX2_sugarOf 1 = .ok (.iload_n 1, 1) := by decide +kernel
theorem dX2_sugarOf_2 : decode cX2_sugarOf 2 = .ok (.invokevirtual 82, 3) := by decide +kernel
theorem dX2_sugarOf_5 : decode cX2_sugarOf 5 = .ok (.getfield 109, 3) := by decide +kernel
theorem dX2_sugarOf_8 : decode cX2_sugarOf 8 = .ok (.dreturn, 1) := by decide +kernel
set_option maxRecDepth 20000 in
theorem ggX2_tasteOf_X2_barrelNumbered : GoodIn wsX2_tasteOf wsX2_barrelNumbered := goodIn_ca (goodIn_r _ [5, 6, 7, 8, 9, 10, 28, 29, 30, 31, 32, 33, 34, 35, 36] (by decide +kernel) (by decide +kernel)) (goodIn_sub (fun _ h => List.mem_cons_of_mem _ (List.mem_append_right _ h)) (by decide +kernel))
set_option maxRecDepth 20000 in
theorem gX2_tasteOf_X2_barrelNumbered : GoodIn wsX2_tasteOf (wsV RX2 82 RX2 yX2_barrelNumbered wsX2_barrelNumbered) := goodIn_app (goodIn_of _ (by decide +kernel)) ggX2_tasteOf_X2_barrelNumbered
set_option maxRecDepth 20000 in
theorem ggX2_tasteOf_X0_taste : GoodIn wsX2_tasteOf wsX0_taste := goodIn_r _ [15, 16, 17, 18, 19, 20, 21, 22, 23, 24, 25, 14, 26, 27, 37, 38, 39, 40, 41, 42] (by decide +kernel) (by decide +kernel)
set_option maxRecDepth 20000 in
theorem gX2_tasteOf_X0_taste : GoodIn wsX2_tasteOf (wsV RX2 112 RX0 yX0_taste wsX0_taste) := goodIn_app (goodIn_of _ (by decide +kernel)) ggX2_tasteOf_X0_taste
theorem dX2_tasteOf_0 : decode cX2_tasteOf 0 = .ok (.aload_n 0, 1) := by decide +kernel
theorem dX2_tasteOf_1 : decode cX2_tasteOf 1 = .ok (.iload_n 1, 1) := by decide +kernel
theorem dX2_tasteOf_2 : decode cX2_tasteOf 2 = .ok (.invokevirtual 82, 3) := by decide +kernel
theorem dX2_tasteOf_5 : decode cX2_tasteOf 5 = .ok (.invokevirtual 112, 3) := by decide +kernel
theorem dX2_tasteOf_8 : decode cX2_tasteOf 8 = .ok (.dreturn, 1) := by decide +kernel
set_option maxRecDepth 20000 in
theorem ggX2_oldest_X1_eldest : GoodIn wsX2_oldest wsX1_eldest := goodIn_r _ [6, 7, 8, 9, 10, 11, 12, 13, 14, 15, 20, 21, 22, 23, 24, 25, 26, 27, 28, 29, 30] (by decide +kernel) (by decide +kernel)
set_option maxRecDepth 20000 in
theorem gX2_oldest_X1_eldest : GoodIn wsX2_oldest (wsV RX2 115 RX1 yX1_eldest wsX1_eldest) := goodIn_app (goodIn_of _ (by decide +kernel)) ggX2_oldest_X1_eldest
theorem dX2_oldest_0 : decode cX2_oldest 0 = .ok (.aload_n 0, 1) := by decide +kernel
theorem dX2_oldest_1 : decode cX2_oldest 1 = .ok (.getfield 10, 3) := by decide +kernel
theorem dX2_oldest_4 : decode cX2_oldest 4 = .ok (.invokevirtual 115, 3) := by decide +kernel
theorem dX2_oldest_7 : decode cX2_oldest 7 = .ok (.ireturn, 1) := by decide +kernel
set_option maxRecDepth 20000 in
theorem ggX2_drawable_X1_bottlesReady : GoodIn wsX2_drawable wsX1_bottlesReady := goodIn_r _ [6, 7, 8, 9, 10, 11, 12, 13, 14, 15, 16, 17, 18, 5, 19, 20, 21, 22, 23, 24, 25, 26, 31, 32, 33, 34, 35, 36, 37, 38, 39, 40, 41] (by decide +kernel) (by decide +kernel)
set_option maxRecDepth 20000 in
theorem gX2_drawable_X1_bottlesReady : GoodIn wsX2_drawable (wsV RX2 68 RX1 yX1_bottlesReady wsX1_bottlesReady) := goodIn_app (goodIn_of _ (by decide +kernel)) ggX2_drawable_X1_bottlesReady
theorem dX2_drawable_0 : decode cX2_drawable 0 = .ok (.aload_n 0, 1) := by decide +kernel
theorem dX2_drawable_1 : decode cX2_drawable 1 = .ok (.getfield 10, 3) := by decide +kernel
theorem dX2_drawable_4 : decode cX2_drawable 4 = .ok (.invokevirtual 68, 3) := by decide +kernel
theorem dX2_drawable_7 : decode cX2_drawable 7 = .ok (.ireturn, 1) := by decide +kernel
theorem dX2_bottles_0 : decode cX2_bottles 0 = .ok (.iload_n 1, 1) := by decide +kernel
theorem dX2_bottles_1 : decode cX2_bottles 1 = .ok (.ifCond .lt 8, 3) := by decide +kernel
theorem dX2_bottles_4 : decode cX2_bottles 4 = .ok (.iload_n 1, 1) := by decide +kernel
theorem dX2_bottles_5 : decode cX2_bottles 5 = .ok (.iconst 3, 1) := by decide +kernel
theorem dX2_bottles_6 : decode cX2_bottles 6 = .ok (.if_icmp .lt 13, 3) := by decide +kernel
theorem dX2_bottles_9 : decode cX2_bottles 9 = .ok (.new 27, 3) := by decide +kernel
theorem dX2_bottles_12 : decode cX2_bottles 12 = .ok (.dup, 1) := by decide +kernel
theorem dX2_bottles_13 : decode cX2_bottles 13 = .ok (.ldc 118, 2) := by decide +kernel
theorem dX2_bottles_15 : decode cX2_bottles 15 = .ok (.invokespecial 31, 3) := by decide +kernel
theorem dX2_bottles_18 : decode cX2_bottles 18 = .ok (.athrow, 1) := by decide +kernel
theorem dX2_bottles_19 : decode cX2_bottles 19 = .ok (.aload_n 0, 1) := by decide +kernel
theorem dX2_bottles_20 : decode cX2_bottles 20 = .ok (.getfield 19, 3) := by decide +kernel
theorem dX2_bottles_23 : decode cX2_bottles 23 = .ok (.iload_n 1, 1) := by decide +kernel
theorem dX2_bottles_24 : decode cX2_bottles 24 = .ok (.iaload, 1) := by decide +kernel
theorem dX2_bottles_25 : decode cX2_bottles 25 = .ok (.ireturn, 1) := by decide +kernel
theorem dX2_years_0 : decode cX2_years 0 = .ok (.aload_n 0, 1) := by decide +kernel
theorem dX2_years_1 : decode cX2_years 1 = .ok (.getfield 23, 3) := by decide +kernel
theorem dX2_years_4 : decode cX2_years 4 = .ok (.ireturn, 1) := by decide +kernel
set_option maxRecDepth 20000 in
theorem ggX2_meanAge_X1_allLitres : GoodIn wsX2_meanAge wsX1_allLitres := goodIn_r _ [6, 7, 8, 9, 19, 20, 21, 22, 23, 24, 25, 26, 27, 28, 29] (by decide +kernel) (by decide +kernel)
set_option maxRecDepth 20000 in
theorem gX2_meanAge_X1_allLitres : GoodIn wsX2_meanAge (wsV RX2 120 RX1 yX1_allLitres wsX1_allLitres) := goodIn_app (goodIn_of _ (by decide +kernel)) ggX2_meanAge_X1_allLitres
set_option maxRecDepth 20000 in
theorem ggX2_meanAge_X1_litresTimesAge : GoodIn wsX2_meanAge wsX1_litresTimesAge := goodIn_r _ [13, 7, 8, 9, 14, 19, 20, 21, 22, 23, 24, 25, 26, 27, 28, 29] (by decide +kernel) (by decide +kernel)
set_option maxRecDepth 20000 in
theorem gX2_meanAge_X1_litresTimesAge : GoodIn wsX2_meanAge (wsV RX2 123 RX1 yX1_litresTimesAge wsX1_litresTimesAge) := goodIn_app (goodIn_of _ (by decide +kernel)) ggX2_meanAge_X1_litresTimesAge
theorem dX2_meanAge_0 : decode cX2_meanAge 0 = .ok (.aload_n 0, 1) := by decide +kernel
theorem dX2_meanAge_1 : decode cX2_meanAge 1 = .ok (.getfield 10, 3) := by decide +kernel
theorem dX2_meanAge_4 : decode cX2_meanAge 4 = .ok (.invokevirtual 120, 3) := by decide +kernel
theorem dX2_meanAge_7 : decode cX2_meanAge 7 = .ok (.dstore_n 1, 1) := by decide +kernel
theorem dX2_meanAge_8 : decode cX2_meanAge 8 = .ok (.dload_n 1, 1) := by decide +kernel
theorem dX2_meanAge_9 : decode cX2_meanAge 9 = .ok (.dconst 0, 1) := by decide +kernel
theorem dX2_meanAge_10 : decode cX2_meanAge 10 = .ok (.dcmp .l, 1) := by decide +kernel
theorem dX2_meanAge_11 : decode cX2_meanAge 11 = .ok (.ifCond .le 15, 3) := by decide +kernel
theorem dX2_meanAge_14 : decode cX2_meanAge 14 = .ok (.aload_n 0, 1) := by decide +kernel
theorem dX2_meanAge_15 : decode cX2_meanAge 15 = .ok (.getfield 10, 3) := by decide +kernel
theorem dX2_meanAge_18 : decode cX2_meanAge 18 = .ok (.invokevirtual 123, 3) := by decide +kernel
theorem dX2_meanAge_21 : decode cX2_meanAge 21 = .ok (.dload_n 1, 1) := by decide +kernel
theorem dX2_meanAge_22 : decode cX2_meanAge 22 = .ok (.ddiv, 1) := by decide +kernel
theorem dX2_meanAge_23 : decode cX2_meanAge 23 = .ok (.goto 4, 3) := by decide +kernel
theorem dX2_meanAge_26 : decode cX2_meanAge 26 = .ok (.dconst 0, 1) := by decide +kernel
theorem dX2_meanAge_27 : decode cX2_meanAge 27 = .ok (.dreturn, 1) := by decide +kernel
set_option maxRecDepth 20000 in
theorem ggX2_meanSugar_X1_allLitres : GoodIn wsX2_meanSugar wsX1_allLitres := goodIn_r _ [6, 7, 8, 9, 19, 20, 21, 22, 23, 24, 25, 26, 27, 28, 29] (by decide +kernel) (by decide +kernel)
set_option maxRecDepth 20000 in
theorem gX2_meanSugar_X1_allLitres : GoodIn wsX2_meanSugar (wsV RX2 120 RX1 yX1_allLitres wsX1_allLitres) := goodIn_app (goodIn_of _ (by decide +kernel)) ggX2_meanSugar_X1_allLitres
set_option maxRecDepth 20000 in
theorem ggX2_meanSugar_X1_litresTimesSugar : GoodIn wsX2_meanSugar wsX1_litresTimesSugar := goodIn_r _ [13, 7, 8, 9, 14, 19, 20, 21, 22, 23, 24, 25, 26, 27, 28, 29] (by decide +kernel) (by decide +kernel)
set_option maxRecDepth 20000 in
theorem gX2_meanSugar_X1_litresTimesSugar : GoodIn wsX2_meanSugar (wsV RX2 126 RX1 yX1_litresTimesSugar wsX1_litresTimesSugar) := goodIn_app (goodIn_of _ (by decide +kernel)) ggX2_meanSugar_X1_litresTimesSugar
theorem dX2_meanSugar_0 : decode cX2_meanSugar 0 = .ok (.aload_n 0, 1) := by decide +kernel
theorem dX2_meanSugar_1 : decode cX2_meanSugar 1 = .ok (.getfield 10, 3) := by decide +kernel
theorem dX2_meanSugar_4 : decode cX2_meanSugar 4 = .ok (.invokevirtual 120, 3) := by decide +kernel
theorem dX2_meanSugar_7 : decode cX2_meanSugar 7 = .ok (.dstore_n 1, 1) := by decide +kernel
theorem dX2_meanSugar_8 : decode cX2_meanSugar 8 = .ok (.dload_n 1, 1) := by decide +kernel
theorem dX2_meanSugar_9 : decode cX2_meanSugar 9 = .ok (.dconst 0, 1) := by decide +kernel
theorem dX2_meanSugar_10 : decode cX2_meanSugar 10 = .ok (.dcmp .l, 1) := by decide +kernel
theorem dX2_meanSugar_11 : decode cX2_meanSugar 11 = .ok (.ifCond .le 15, 3) := by decide +kernel
theorem dX2_meanSugar_14 : decode cX2_meanSugar 14 = .ok (.aload_n 0, 1) := by decide +kernel
theorem dX2_meanSugar_15 : decode cX2_meanSugar 15 = .ok (.getfield 10, 3) := by decide +kernel
theorem dX2_meanSugar_18 : decode cX2_meanSugar 18 = .ok (.invokevirtual 126, 3) := by decide +kernel
theorem dX2_meanSugar_21 : decode cX2_meanSugar 21 = .ok (.dload_n 1, 1) := by decide +kernel
theorem dX2_meanSugar_22 : decode cX2_meanSugar 22 = .ok (.ddiv, 1) := by decide +kernel
theorem dX2_meanSugar_23 : decode cX2_meanSugar 23 = .ok (.goto 4, 3) := by decide +kernel
theorem dX2_meanSugar_26 : decode cX2_meanSugar 26 = .ok (.dconst 0, 1) := by decide +kernel
theorem dX2_meanSugar_27 : decode cX2_meanSugar 27 = .ok (.dreturn, 1) := by decide +kernel
set_option maxRecDepth 20000 in
theorem ggX2_firstBottleIn_X1_bottlesReady : GoodIn wsX2_firstBottleIn wsX1_bottlesReady := goodIn_r _ [7, 8, 9, 10, 11, 12, 13, 14, 15, 16, 17, 18, 19, 6, 20, 21, 22, 23, 24, 25, 26, 27, 112, 113, 114, 115, 116, 117, 118, 119, 120, 121, 122] (by decide +kernel) (by decide +kernel)
set_option maxRecDepth 20000 in
theorem gX2_firstBottleIn_X1_bottlesReady : GoodIn wsX2_firstBottleIn (wsV RX2 68 RX1 yX1_bottlesReady wsX1_bottlesReady) := goodIn_app (goodIn_of _ (by decide +kernel)) ggX2_firstBottleIn_X1_bottlesReady
set_option maxRecDepth 20000 in
theorem ggX2_firstBottleIn_X1_copyFrom : GoodIn wsX2_firstBottleIn wsX1_copyFrom := goodIn_r _ [31, 21, 32, 8, 14, 9, 33, 34, 35, 25, 36, 37, 38, 27, 39, 40, 41, 112, 113, 114, 115, 116, 117, 118, 119, 120, 121, 122] (by decide +kernel) (by decide +kernel)
set_option maxRecDepth 20000 in
theorem gX2_firstBottleIn_X1_copyFrom : GoodIn wsX2_firstBottleIn (wsV RX2 129 RX1 yX1_copyFrom wsX1_copyFrom) := goodIn_app (goodIn_of _ (by decide +kernel)) ggX2_firstBottleIn_X1_copyFrom
set_option maxRecDepth 20000 in
theorem ggX2_firstBottleIn_X1_pourMust : GoodIn wsX2_firstBottleIn wsX1_pourMust := goodIn_r _ [45, 21, 9, 46, 15, 47, 48, 49, 50, 25, 51, 27, 39, 40, 41, 52, 53, 54, 112, 113, 114, 115, 116, 117, 118, 119, 120, 121, 122] (by decide +kernel) (by decide +kernel)
set_option maxRecDepth 20000 in
theorem gX2_firstBottleIn_X1_pourMust : GoodIn wsX2_firstBottleIn (wsV RX2 55 RX1 yX1_pourMust wsX1_pourMust) := goodIn_app (goodIn_of _ (by decide +kernel)) ggX2_firstBottleIn_X1_pourMust
set_option maxRecDepth 20000 in
theorem ggX2_firstBottleIn_X1_passDown : GoodIn wsX2_firstBottleIn wsX1_passDown := goodIn_r _ [58, 21, 9, 59, 60, 6, 61, 62, 46, 15, 63, 10, 64, 12, 48, 49, 50, 25, 51, 27, 39, 40, 41, 52, 53, 54, 65, 66, 67, 68, 69, 70, 71, 72, 112, 113, 114, 115, 116, 117, 118, 119, 120, 121, 122] (by decide +kernel) (by decide +kernel)
set_option maxRecDepth 20000 in
theorem gX2_firstBottleIn_X1_passDown : GoodIn wsX2_firstBottleIn (wsV RX2 59 RX1 yX1_passDown wsX1_passDown) := goodIn_app (goodIn_of _ (by decide +kernel)) ggX2_firstBottleIn_X1_passDown
set_option maxRecDepth 20000 in
theorem ggX2_firstBottleIn_X1_ageAll : GoodIn wsX2_firstBottleIn wsX1_ageAll := goodIn_r _ [76, 21, 9, 8, 77, 15, 14, 78, 79, 80, 6, 81, 82, 32, 83, 22, 23, 24, 25, 26, 27, 84, 85, 86, 87, 37, 41, 88, 39, 89, 90, 91, 92, 93, 94, 95, 96, 66, 67, 68, 69, 70, 71, 72, 40, 97, 98, 99, 100, 101, 102, 103, 104, 105, 106, 107, 17, 18, 19, 20, 10, 112, 113, 114, 115, 116, 117, 118, 119, 120, 121, 122] (by decide +kernel) (by decide +kernel)
set_option maxRecDepth 20000 in
theorem gX2_firstBottleIn_X1_ageAll : GoodIn wsX2_firstBottleIn (wsV RX2 63 RX1 yX1_ageAll wsX1_ageAll) := goodIn_app (goodIn_of _ (by decide +kernel)) ggX2_firstBottleIn_X1_ageAll
end
section
theorem dX2_firstBottleIn_0 : decode cX2_firstBottleIn 0 = .ok (.aload_n 0, 1) := by decide +kernel
theorem dX2_firstBottleIn_1 : decode cX2_firstBottleIn 1 = .ok (.getfield 10, 3) := by decide +kernel
theorem dX2_firstBottleIn_4 : decode cX2_firstBottleIn 4 = .ok (.invokevirtual 68, 3) := by decide +kernel
theorem dX2_firstBottleIn_7 : decode cX2_firstBottleIn 7 = .ok (.ifCond .le 5, 3) := by decide +kernel
theorem dX2_firstBottleIn_10 : decode cX2_firstBottleIn 10 = .ok (.iconst 0, 1) := by decide +kernel
theorem dX2_firstBottleIn_11 : decode cX2_firstBottleIn 11 = .ok (.ireturn, 1) := by decide +kernel
theorem dX2_firstBottleIn_12 : decode cX2_firstBottleIn 12 = .ok (.aload_n 0, 1) := by decide +kernel
theorem dX2_firstBottleIn_13 : decode cX2_firstBottleIn 13 = .ok (.getfield 16, 3) := by decide +kernel
theorem dX2_firstBottleIn_16 : decode cX2_firstBottleIn 16 = .ok (.aload_n 0, 1) := by decide +kernel
theorem dX2_firstBottleIn_17 : decode cX2_firstBottleIn 17 = .ok (.getfield 10, 3) := by decide +kernel
theorem dX2_firstBottleIn_20 : decode cX2_firstBottleIn 20 = .ok (.invokevirtual 129, 3) := by decide +kernel
theorem dX2_firstBottleIn_23 : decode cX2_firstBottleIn 23 = .ok (.iconst 1, 1) := by decide +kernel
theorem dX2_firstBottleIn_24 : decode cX2_firstBottleIn 24 = .ok (.istore_n 1, 1) := by decide +kernel
theorem dX2_firstBottleIn_25 : decode cX2_firstBottleIn 25 = .ok (.iload_n 1, 1) := by decide +kernel
theorem dX2_firstBottleIn_26 : decode cX2_firstBottleIn 26 = .ok (.bipush 60, 2) := by decide +kernel
theorem dX2_firstBottleIn_28 : decode cX2_firstBottleIn 28 = .ok (.if_icmp .gt 47, 3) := by decide +kernel
theorem dX2_firstBottleIn_31 : decode cX2_firstBottleIn 31 = .ok (.aload_n 0, 1) := by decide +kernel
theorem dX2_firstBottleIn_32 : decode cX2_firstBottleIn 32 = .ok (.getfield 16, 3) := by decide +kernel
theorem dX2_firstBottleIn_35 : decode cX2_firstBottleIn 35 = .ok (.bipush 100, 2) := by decide +kernel
theorem dX2_firstBottleIn_37 : decode cX2_firstBottleIn 37 = .ok (.invokevirtual 55, 3) := by decide +kernel
theorem dX2_firstBottleIn_40 : decode cX2_firstBottleIn 40 = .ok (.pop2, 1) := by decide +kernel
theorem dX2_firstBottleIn_41 : decode cX2_firstBottleIn 41 = .ok (.aload_n 0, 1) := by decide +kernel
theorem dX2_firstBottleIn_42 : decode cX2_firstBottleIn 42 = .ok (.getfield 16, 3) := by decide +kernel
theorem dX2_firstBottleIn_45 : decode cX2_firstBottleIn 45 = .ok (.invokevirtual 59, 3) := by decide +kernel
theorem dX2_firstBottleIn_48 : decode cX2_firstBottleIn 48 = .ok (.pop2, 1) := by decide +kernel
theorem dX2_firstBottleIn_49 : decode cX2_firstBottleIn 49 = .ok (.aload_n 0, 1) := by decide +kernel
theorem dX2_firstBottleIn_50 : decode cX2_firstBottleIn 50 = .ok (.getfield 16, 3) := by decide +kernel
theorem dX2_firstBottleIn_53 : decode cX2_firstBottleIn 53 = .ok (.invokevirtual 63, 3) := by decide +kernel
theorem dX2_firstBottleIn_56 : decode cX2_firstBottleIn 56 = .ok (.pop2, 1) := by decide +kernel
theorem dX2_firstBottleIn_57 : decode cX2_firstBottleIn 57 = .ok (.aload_n 0, 1) := by decide +kernel
theorem dX2_firstBottleIn_58 : decode cX2_firstBottleIn 58 = .ok (.getfield 16, 3) := by decide +kernel
theorem dX2_firstBottleIn_61 : decode cX2_firstBottleIn 61 = .ok (.invokevirtual 68, 3) := by decide +kernel
theorem dX2_firstBottleIn_64 : decode cX2_firstBottleIn 64 = .ok (.ifCond .le 5, 3) := by decide +kernel
theorem dX2_firstBottleIn_67 : decode cX2_firstBottleIn 67 = .ok (.iload_n 1, 1) := by decide +kernel
theorem dX2_firstBottleIn_68 : decode cX2_firstBottleIn 68 = .ok (.ireturn, 1) := by decide +kernel
theorem dX2_firstBottleIn_69 : decode cX2_firstBottleIn 69 = .ok (.iinc 1 1, 3) := by decide +kernel
theorem dX2_firstBottleIn_72 : decode cX2_firstBottleIn 72 = .ok (.goto (-47), 3) := by decide +kernel
theorem dX2_firstBottleIn_75 : decode cX2_firstBottleIn 75 = .ok (.iconst (-1), 1) := by decide +kernel
theorem dX2_firstBottleIn_76 : decode cX2_firstBottleIn 76 = .ok (.ireturn, 1) := by decide +kernel
theorem dX2_barrelNumbered_0 : decode cX2_barrelNumbered 0 = .ok (.iload_n 1, 1) := by decide +kernel
theorem dX2_barrelNumbered_1 : decode cX2_barrelNumbered 1 = .ok (.ifCond .lt 14, 3) := by decide +kernel
theorem dX2_barrelNumbered_4 : decode cX2_barrelNumbered 4 = .ok (.iload_n 1, 1) := by decide +kernel
theorem dX2_barrelNumbered_5 : decode cX2_barrelNumbered 5 = .ok (.aload_n 0, 1) := by decide +kernel
theorem dX2_barrelNumbered_6 : decode cX2_barrelNumbered 6 = .ok (.getfield 10, 3) := by decide +kernel
theorem dX2_barrelNumbered_9 : decode cX2_barrelNumbered 9 = .ok (.getfield 100, 3) := by decide +kernel
theorem dX2_barrelNumbered_12 : decode cX2_barrelNumbered 12 = .ok (.if_icmp .lt 13, 3) := by decide +kernel
theorem dX2_barrelNumbered_15 : decode cX2_barrelNumbered 15 = .ok (.new 133, 3) := by decide +kernel
theorem dX2_barrelNumbered_18 : decode cX2_barrelNumbered 18 = .ok (.dup, 1) := by decide +kernel
theorem dX2_barrelNumbered_19 : decode cX2_barrelNumbered 19 = .ok (.ldc 135, 2) := by decide +kernel
theorem dX2_barrelNumbered_21 : decode cX2_barrelNumbered 21 = .ok (.invokespecial 137, 3) := by decide +kernel
theorem dX2_barrelNumbered_24 : decode cX2_barrelNumbered 24 = .ok (.athrow, 1) := by decide +kernel
theorem dX2_barrelNumbered_25 : decode cX2_barrelNumbered 25 = .ok (.aload_n 0, 1) := by decide +kernel
theorem dX2_barrelNumbered_26 : decode cX2_barrelNumbered 26 = .ok (.getfield 10, 3) := by decide +kernel
theorem dX2_barrelNumbered_29 : decode cX2_barrelNumbered 29 = .ok (.getfield 138, 3) := by decide +kernel
theorem dX2_barrelNumbered_32 : decode cX2_barrelNumbered 32 = .ok (.iload_n 1, 1) := by decide +kernel
theorem dX2_barrelNumbered_33 : decode cX2_barrelNumbered 33 = .ok (.aaload, 1) := by decide +kernel
theorem dX2_barrelNumbered_34 : decode cX2_barrelNumbered 34 = .ok (.areturn, 1) := by decide +kernel
theorem dX2_kindAt_0 : decode cX2_kindAt 0 = .ok (.dload_n 0, 1) := by decide +kernel
theorem dX2_kindAt_1 : decode cX2_kindAt 1 = .ok (.ldc2_w 142, 3) := by decide +kernel
theorem dX2_kindAt_4 : decode cX2_kindAt 4 = .ok (.dcmp .g, 1) := by decide +kernel
theorem dX2_kindAt_5 : decode cX2_kindAt 5 = .ok (.ifCond .ge 5, 3) := by decide +kernel
theorem dX2_kindAt_8 : decode cX2_kindAt 8 = .ok (.iconst 0, 1) := by decide +kernel
theorem dX2_kindAt_9 : decode cX2_kindAt 9 = .ok (.ireturn, 1) := by decide +kernel
theorem dX2_kindAt_10 : decode cX2_kindAt 10 = .ok (.dload_n 0, 1) := by decide +kernel
theorem dX2_kindAt_11 : decode cX2_kindAt 11 = .ok (.ldc2_w 144, 3) := by decide +kernel
theorem dX2_kindAt_14 : decode cX2_kindAt 14 = .ok (.dcmp .g, 1) := by decide +kernel
theorem dX2_kindAt_15 : decode cX2_kindAt 15 = .ok (.ifCond .ge 7, 3) := by decide +kernel
theorem dX2_kindAt_18 : decode cX2_kindAt 18 = .ok (.iconst 1, 1) := by decide +kernel
theorem dX2_kindAt_19 : decode cX2_kindAt 19 = .ok (.goto 4, 3) := by decide +kernel
theorem dX2_kindAt_22 : decode cX2_kindAt 22 = .ok (.iconst 2, 1) := by decide +kernel
theorem dX2_kindAt_23 : decode cX2_kindAt 23 = .ok (.ireturn, 1) := by decide +kernel
theorem dL_drawn_0 : decode cL_drawn 0 = .ok (.iload_n 1, 1) := by decide +kernel
theorem dL_drawn_1 : decode cL_drawn 1 = .ok (.aload_n 0, 1) := by decide +kernel
theorem dL_drawn_2 : decode cL_drawn 2 = .ok (.arraylength, 1) := by decide +kernel
theorem dL_drawn_3 : decode cL_drawn 3 = .ok (.if_icmp .ge 9, 3) := by decide +kernel
theorem dL_drawn_6 : decode cL_drawn 6 = .ok (.aload_n 0, 1) := by decide +kernel
theorem dL_drawn_7 : decode cL_drawn 7 = .ok (.iload_n 1, 1) := by decide +kernel
theorem dL_drawn_8 : decode cL_drawn 8 = .ok (.iaload, 1) := by decide +kernel
theorem dL_drawn_9 : decode cL_drawn 9 = .ok (.goto 11, 3) := by decide +kernel
theorem dL_drawn_12 : decode cL_drawn 12 = .ok (.ldc 7, 2) := by decide +kernel
theorem dL_drawn_14 : decode cL_drawn 14 = .ok (.iload_n 1, 1) := by decide +kernel
theorem dL_drawn_15 : decode cL_drawn 15 = .ok (.imul, 1) := by decide +kernel
theorem dL_drawn_16 : decode cL_drawn 16 = .ok (.sipush 2593, 3) := by decide +kernel
theorem dL_drawn_19 : decode cL_drawn 19 = .ok (.iadd, 1) := by decide +kernel
theorem dL_drawn_20 : decode cL_drawn 20 = .ok (.istore_n 3, 1) := by decide +kernel
theorem dL_drawn_21 : decode cL_drawn 21 = .ok (.iload_n 3, 1) := by decide +kernel
theorem dL_drawn_22 : decode cL_drawn 22 = .ok (.iconst 1, 1) := by decide +kernel
theorem dL_drawn_23 : decode cL_drawn 23 = .ok (.iushr, 1) := by decide +kernel
theorem dL_drawn_24 : decode cL_drawn 24 = .ok (.iload_n 2, 1) := by decide +kernel
theorem dL_drawn_25 : decode cL_drawn 25 = .ok (.irem, 1) := by decide +kernel
theorem dL_drawn_26 : decode cL_drawn 26 = .ok (.ireturn, 1) := by decide +kernel
theorem dL_isNear_0 : decode cL_isNear 0 = .ok (.dload_n 0, 1) := by decide +kernel
theorem dL_isNear_1 : decode cL_isNear 1 = .ok (.dload_n 2, 1) := by decide +kernel
theorem dL_isNear_2 : decode cL_isNear 2 = .ok (.dcmp .l, 1) := by decide +kernel
theorem dL_isNear_3 : decode cL_isNear 3 = .ok (.ifCond .le 9, 3) := by decide +kernel
theorem dL_isNear_6 : decode cL_isNear 6 = .ok (.dload_n 0, 1) := by decide +kernel
theorem dL_isNear_7 : decode cL_isNear 7 = .ok (.dload_n 2, 1) := by decide +kernel
theorem dL_isNear_8 : decode cL_isNear 8 = .ok (.dsub, 1) := by decide +kernel
theorem dL_isNear_9 : decode cL_isNear 9 = .ok (.goto 6, 3) := by decide +kernel
theorem dL_isNear_12 : decode cL_isNear 12 = .ok (.dload_n 2, 1) := by decide +kernel
theorem dL_isNear_13 : decode cL_isNear 13 = .ok (.dload_n 0, 1) := by decide +kernel
theorem dL_isNear_14 : decode cL_isNear 14 = .ok (.dsub, 1) := by decide +kernel
theorem dL_isNear_15 : decode cL_isNear 15 = .ok (.dstore 4, 2) := by decide +kernel
theorem dL_isNear_17 : decode cL_isNear 17 = .ok (.dload_n 0, 1) := by decide +kernel
theorem dL_isNear_18 : decode cL_isNear 18 = .ok (.dconst 1, 1) := by decide +kernel
theorem dL_isNear_19 : decode cL_isNear 19 = .ok (.dcmp .l, 1) := by decide +kernel
theorem dL_isNear_20 : decode cL_isNear 20 = .ok (.ifCond .le 7, 3) := by decide +kernel
theorem dL_isNear_23 : decode cL_isNear 23 = .ok (.dload_n 0, 1) := by decide +kernel
theorem dL_isNear_24 : decode cL_isNear 24 = .ok (.goto 4, 3) := by decide +kernel
theorem dL_isNear_27 : decode cL_isNear 27 = .ok (.dconst 1, 1) := by decide +kernel
theorem dL_isNear_28 : decode cL_isNear 28 = .ok (.dstore 6, 2) := by decide +kernel
theorem dL_isNear_30 : decode cL_isNear 30 = .ok (.dload 4, 2) := by decide +kernel
theorem dL_isNear_32 : decode cL_isNear 32 = .ok (.ldc2_w 8, 3) := by decide +kernel
theorem dL_isNear_35 : decode cL_isNear 35 = .ok (.dload 6, 2) := by decide +kernel
theorem dL_isNear_37 : decode cL_isNear 37 = .ok (.dmul, 1) := by decide +kernel
theorem dL_isNear_38 : decode cL_isNear 38 = .ok (.dcmp .g, 1) := by decide +kernel
theorem dL_isNear_39 : decode cL_isNear 39 = .ok (.ifCond .ge 7, 3) := by decide +kernel
theorem dL_isNear_42 : decode cL_isNear 42 = .ok (.iconst 1, 1) := by decide +kernel
theorem dL_isNear_43 : decode cL_isNear 43 = .ok (.goto 4, 3) := by decide +kernel
theorem dL_isNear_46 : decode cL_isNear 46 = .ok (.iconst 0, 1) := by decide +kernel
theorem dL_isNear_47 : decode cL_isNear 47 = .ok (.ireturn, 1) := by decide +kernel
set_option maxRecDepth 20000 in
theorem ggL_litres_X2_barrels : GoodIn wsL_litres wsX2_barrels := goodIn_r _ [5, 6, 7, 20, 21, 22, 23, 24, 25, 26, 27, 28] (by decide +kernel) (by decide +kernel)
set_option maxRecDepth 20000 in
theorem gL_litres_X2_barrels : GoodIn wsL_litres (wsV RL 10 RX2 yX2_barrels wsX2_barrels) := goodIn_app (goodIn_of _ (by decide +kernel)) ggL_litres_X2_barrels
set_option maxRecDepth 20000 in
theorem ggL_litres_X2_litresIn : GoodIn wsL_litres wsX2_litresIn := goodIn_ca (goodIn_r _ [11, 12, 13, 14, 15, 4, 16, 17, 18, 6, 7, 19, 29, 30, 31, 32, 33, 34, 20, 21, 22, 23, 24, 25, 26, 27, 28] (by decide +kernel) (by decide +kernel)) (goodIn_sub (fun _ h => List.mem_cons_of_mem _ (List.mem_append_right _ h)) (by decide +kernel))
set_option maxRecDepth 20000 in
theorem gL_litres_X2_litresIn : GoodIn wsL_litres (wsV RL 16 RX2 yX2_litresIn wsX2_litresIn) := goodIn_app (goodIn_of _ (by decide +kernel)) ggL_litres_X2_litresIn
theorem dL_litres_0 : decode cL_litres 0 = .ok (.dconst 0, 1) := by decide +kernel
theorem dL_litres_1 : decode cL_litres 1 = .ok (.dstore_n 1, 1) := by decide +kernel
theorem dL_litres_2 : decode cL_litres 2 = .ok (.iconst 0, 1) := by decide +kernel
theorem dL_litres_3 : decode cL_litres 3 = .ok (.istore_n 3, 1) := by decide +kernel
theorem dL_litres_4 : decode cL_litres 4 = .ok (.iload_n 3, 1) := by decide +kernel
theorem dL_litres_5 : decode cL_litres 5 = .ok (.aload_n 0, 1) := by decide +kernel
theorem dL_litres_6 : decode cL_litres 6 = .ok (.invokevirtual 10, 3) := by decide +kernel
theorem dL_litres_9 : decode cL_litres 9 = .ok (.if_icmp .ge 17, 3) := by decide +kernel
theorem dL_litres_12 : decode cL_litres 12 = .ok (.dload_n 1, 1) := by decide +kernel
theorem dL_litres_13 : decode cL_litres 13 = .ok (.aload_n 0, 1) := by decide +kernel
theorem dL_litres_14 : decode cL_litres 14 = .ok (.iload_n 3, 1) := by decide +kernel
theorem dL_litres_15 : decode cL_litres 15 = .ok (.invokevirtual 16, 3) := by decide +kernel
theorem dL_litres_18 : decode cL_litres 18 = .ok (.dadd, 1) := by decide +kernel
theorem dL_litres_19 : decode cL_litres 19 = .ok (.dstore_n 1, 1) := by decide +kernel
theorem dL_litres_20 : decode cL_litres 20 = .ok (.iinc 3 1, 3) := by decide +kernel
theorem dL_litres_23 : decode cL_litres 23 = .ok (.goto (-19), 3) := by decide +kernel
theorem dL_litres_26 : decode cL_litres 26 = .ok (.dload_n 1, 1) := by decide +kernel
theorem dL_litres_27 : decode cL_litres 27 = .ok (.dreturn, 1) := by decide +kernel
set_option maxRecDepth 20000 in
theorem ggL_acid_X2_barrels : GoodIn wsL_acid wsX2_barrels := goodIn_r _ [5, 6, 7, 25, 26, 27, 28, 29, 30, 31, 32, 33] (by decide +kernel) (by decide +kernel)
set_option maxRecDepth 20000 in
theorem gL_acid_X2_barrels : GoodIn wsL_acid (wsV RL 10 RX2 yX2_barrels wsX2_barrels) := goodIn_app (goodIn_of _ (by decide +kernel)) ggL_acid_X2_barrels
set_option maxRecDepth 20000 in
theorem ggL_acid_X2_litresIn : GoodIn wsL_acid wsX2_litresIn := goodIn_ca (goodIn_r _ [11, 12, 13, 14, 15, 4, 16, 17, 18, 6, 7, 19, 34, 35, 36, 37, 38, 39, 25, 26, 27, 28, 29, 30, 31, 32, 33] (by decide +kernel) (by decide +kernel)) (goodIn_sub (fun _ h => List.mem_cons_of_mem _ (List.mem_append_right _ h)) (by decide +kernel))
set_option maxRecDepth 20000 in
theorem gL_acid_X2_litresIn : GoodIn wsL_acid (wsV RL 16 RX2 yX2_litresIn wsX2_litresIn) := goodIn_app (goodIn_of _ (by decide +kernel)) ggL_acid_X2_litresIn
set_option maxRecDepth 20000 in
theorem ggL_acid_X2_acidOf : GoodIn wsL_acid wsX2_acidOf := goodIn_ca (goodIn_r _ [23, 24, 13, 14, 15, 4, 16, 17, 18, 6, 7, 19, 34, 35, 36, 37, 38, 39, 25, 26, 27, 28, 29, 30, 31, 32, 33] (by decide +kernel) (by decide +kernel)) (goodIn_sub (fun _ h => List.mem_cons_of_mem _ (List.mem_append_right _ h)) (by decide +kernel))
set_option maxRecDepth 20000 in
theorem gL_acid_X2_acidOf : GoodIn wsL_acid (wsV RL 20 RX2 yX2_acidOf wsX2_acidOf) := goodIn_app (goodIn_of _ (by decide +kernel)) ggL_acid_X2_acidOf
theorem dL_acid_0 : decode cL_acid 0 = .ok (.dconst 0, 1) := by decide +kernel
theorem dL_acid_1 : decode cL_acid 1 = .ok (.dstore_n 1, 1) := by decide +kernel
theorem dL_acid_2 : decode cL_acid 2 = .ok (.iconst 0, 1) := by decide +kernel
theorem dL_acid_3 : decode cL_acid 3 = .ok (.istore_n 3, 1) := by decide +kernel
theorem dL_acid_4 : decode cL_acid 4 = .ok (.iload_n 3, 1) := by decide +kernel
theorem dL_acid_5 : decode cL_acid 5 = .ok (.aload_n 0, 1) := by decide +kernel
theorem dL_acid_6 : decode cL_acid 6 = .ok (.invokevirtual 10, 3) := by decide +kernel
theorem dL_acid_9 : decode cL_acid 9 = .ok (.if_icmp .ge 23, 3) := by decide +kernel
theorem dL_acid_12 : decode cL_acid 12 = .ok (.dload_n 1, 1) := by decide +kernel
theorem dL_acid_13 : decode cL_acid 13 = .ok (.aload_n 0, 1) := by decide +kernel
theorem dL_acid_14 : decode cL_acid 14 = .ok (.iload_n 3, 1) := by decide +kernel
theorem dL_acid_15 : decode cL_acid 15 = .ok (.invokevirtual 16, 3) := by decide +kernel
theorem dL_acid_18 : decode cL_acid 18 = .ok (.aload_n 0, 1) := by decide +kernel
theorem dL_acid_19 : decode cL_acid 19 = .ok (.iload_n 3, 1) := by decide +kernel
theorem dL_acid_20 : decode cL_acid 20 = .ok (.invokevirtual 20, 3) := by decide +kernel
theorem dL_acid_23 : decode cL_acid 23 = .ok (.dmul, 1) := by decide +kernel
theorem dL_acid_24 : decode cL_acid 24 = .ok (.dadd, 1) := by decide +kernel
theorem dL_acid_25 : decode cL_acid 25 = .ok (.dstore_n 1, 1) := by decide +kernel
theorem dL_acid_26 : decode cL_acid 26 = .ok (.iinc 3 1, 3) := by decide +kernel
theorem dL_acid_29 : decode cL_acid 29 = .ok (.goto (-25), 3) := by decide +kernel
theorem dL_acid_32 : decode cL_acid 32 = .ok (.dload_n 1, 1) := by decide +kernel
theorem dL_acid_33 : decode cL_acid 33 = .ok (.dreturn, 1) := by decide +kernel
set_option maxRecDepth 20000 in
theorem ggL_isMoved_L_litres : GoodIn wsL_isMoved wsL_litres := goodIn_ca (goodIn_r _ [5, 6, 7, 8, 9, 10, 11, 12, 13, 14, 15, 16, 17, 18, 19, 20, 21, 22, 23, 24, 113, 114, 115, 116, 117, 118, 119, 120, 121, 122, 123, 124, 125, 126, 127] (by decide +kernel) (by decide +kernel)) (goodIn_sub (fun _ h => List.mem_cons_of_mem _ (List.mem_append_right _ h)) (by decide +kernel))
set_option maxRecDepth 20000 in
theorem gL_isMoved_L_litres : GoodIn wsL_isMoved (va_wsS RL 23 yL_litres wsL_litres) := goodIn_app (goodIn_of _ (by decide +kernel)) ggL_isMoved_L_litres
set_option maxRecDepth 20000 in
theorem ggL_isMoved_L_acid : GoodIn wsL_isMoved wsL_acid := goodIn_ca (goodIn_r _ [27, 6, 7, 8, 9, 10, 11, 12, 13, 14, 15, 16, 17, 18, 19, 20, 21, 22, 23, 24, 28, 29, 30, 31, 32, 113, 114, 115, 116, 117, 118, 119, 120, 121, 122, 123, 124, 125, 126, 127] (by decide +kernel) (by decide +kernel)) (goodIn_sub (fun _ h => List.mem_cons_of_mem _ (List.mem_append_right _ h)) (by decide +kernel))
set_option maxRecDepth 20000 in
theorem gL_isMoved_L_acid : GoodIn wsL_isMoved (va_wsS RL 29 yL_acid wsL_acid) := goodIn_app (goodIn_of _ (by decide +kernel)) ggL_isMoved_L_acid
set_option maxRecDepth 20000 in
theorem ggL_isMoved_X2_meanAge : GoodIn wsL_isMoved wsX2_meanAge := goodIn_r _ [36, 11, 37, 38, 39, 40, 41, 42, 43, 44, 45, 46, 47, 48, 49, 113, 114, 115, 116, 117, 118, 119, 120, 121, 122, 123, 124, 125, 126, 127] (by decide +kernel) (by decide +kernel)
set_option maxRecDepth 20000 in
theorem gL_isMoved_X2_meanAge : GoodIn wsL_isMoved (wsV RL 32 RX2 yX2_meanAge wsX2_meanAge) := goodIn_app (goodIn_of _ (by decide +kernel)) ggL_isMoved_X2_meanAge
set_option maxRecDepth 20000 in
theorem ggL_isMoved_X2_meanSugar : GoodIn wsL_isMoved wsX2_meanSugar := goodIn_r _ [53, 11, 37, 38, 39, 40, 41, 42, 43, 44, 54, 55, 56, 57, 58, 113, 114, 115, 116, 117, 118, 119, 120, 121, 122, 123, 124, 125, 126, 127] (by decide +kernel) (by decide +kernel)
set_option maxRecDepth 20000 in
theorem gL_isMoved_X2_meanSugar : GoodIn wsL_isMoved (wsV RL 36 RX2 yX2_meanSugar wsX2_meanSugar) := goodIn_app (goodIn_of _ (by decide +kernel)) ggL_isMoved_X2_meanSugar
set_option maxRecDepth 20000 in
theorem ggL_isMoved_X2_litresIn : GoodIn wsL_isMoved wsX2_litresIn := goodIn_ca (goodIn_r _ [16, 17, 18, 19, 20, 9, 21, 22, 23, 11, 12, 24, 122, 123, 124, 125, 126, 127, 113, 114, 115, 116, 117, 118, 119, 120, 121] (by decide +kernel) (by decide +kernel)) (goodIn_sub (fun _ h => List.mem_cons_of_mem _ (List.mem_append_right _ h)) (by decide +kernel))
set_option maxRecDepth 20000 in
theorem gL_isMoved_X2_litresIn : GoodIn wsL_isMoved (wsV RL 16 RX2 yX2_litresIn wsX2_litresIn) := goodIn_app (goodIn_of _ (by decide +kernel)) ggL_isMoved_X2_litresIn
set_option maxRecDepth 20000 in
theorem ggL_isMoved_X2_tasteOf : GoodIn wsL_isMoved wsX2_tasteOf := goodIn_ca (goodIn_r _ [62, 18, 19, 20, 9, 21, 22, 23, 11, 12, 24, 63, 64, 65, 66, 67, 68, 69, 70, 71, 72, 73, 74, 75, 76, 77, 78, 79, 113, 114, 115, 116, 117, 118, 119, 120, 121, 122, 123, 124, 125, 126, 127] (by decide +kernel) (by decide +kernel)) (goodIn_sub (fun _ h => List.mem_cons_of_mem _ (List.mem_append_right _ h)) (by decide +kernel))
set_option maxRecDepth 20000 in
theorem gL_isMoved_X2_tasteOf : GoodIn wsL_isMoved (wsV RL 39 RX2 yX2_tasteOf wsX2_tasteOf) := goodIn_app (goodIn_of _ (by decide +kernel)) ggL_isMoved_X2_tasteOf
set_option maxRecDepth 20000 in
theorem ggL_isMoved_X2_topUp : GoodIn wsL_isMoved wsX2_topUp := goodIn_r _ [83, 11, 84, 85, 86, 40, 87, 42, 43, 88, 89, 90, 91, 92, 44, 93, 49, 94, 58, 95, 96, 97, 66, 98, 79, 71, 68, 73, 99, 100, 101, 102, 103, 104, 105, 106, 107, 108, 109, 113, 114, 115, 116, 117, 118, 119, 120, 121, 122, 123, 124, 125, 126, 127] (by decide +kernel) (by decide +kernel)
set_option maxRecDepth 20000 in
theorem gL_isMoved_X2_topUp : GoodIn wsL_isMoved (wsV RL 42 RX2 yX2_topUp wsX2_topUp) := goodIn_app (goodIn_of _ (by decide +kernel)) ggL_isMoved_X2_topUp
set_option maxRecDepth 20000 in
theorem ggL_isMoved_L_isNear : GoodIn wsL_isMoved wsL_isNear := goodIn_r _ [112, 1] (by decide +kernel) (by decide +kernel)
set_option maxRecDepth 20000 in
theorem gL_isMoved_L_isNear : GoodIn wsL_isMoved (va_wsS RL 45 yL_isNear wsL_isNear) := goodIn_app (goodIn_of _ (by decide +kernel)) ggL_isMoved_L_isNear
theorem dL_isMoved_0 : decode cL_isMoved 0 = .ok (.aload_n 0, 1) := by decide +kernel
theorem dL_isMoved_1 : decode cL_isMoved 1 = .ok (.invokestatic 23, 3) := by decide +kernel
theorem dL_isMoved_4 : decode cL_isMoved 4 = .ok (.dstore_n 1, 1) := by decide +kernel
theorem dL_isMoved_5 : decode cL_isMoved 5 = .ok (.aload_n 0, 1) := by decide +kernel
theorem dL_isMoved_6 : decode cL_isMoved 6 = .ok (.invokestatic 29, 3) := by decide +kernel
theorem dL_isMoved_9 : decode cL_isMoved 9 = .ok (.dstore_n 3, 1) := by decide +kernel
theorem dL_isMoved_10 : decode cL_isMoved 10 = .ok (.aload_n 0, 1) := by decide +kernel
theorem dL_isMoved_11 : decode cL_isMoved 11 = .ok (.invokevirtual 32, 3) := by decide +kernel
theorem dL_isMoved_14 : decode cL_isMoved 14 = .ok (.dstore 5, 2) := by decide +kernel
theorem dL_isMoved_16 : decode cL_isMoved 16 = .ok (.aload_n 0, 1) := by decide +kernel
theorem dL_isMoved_17 : decode cL_isMoved 17 = .ok (.invokevirtual 36, 3) := by decide +kernel
theorem dL_isMoved_20 : decode cL_isMoved 20 = .ok (.dstore 7, 2) := by decide +kernel
theorem dL_isMoved_22 : decode cL_isMoved 22 = .ok (.aload_n 0, 1) := by decide +kernel
theorem dL_isMoved_23 : decode cL_isMoved 23 = .ok (.iconst 0, 1) := by decide +kernel
theorem dL_isMoved_24 : decode cL_isMoved 24 = .ok (.invokevirtual 16, 3) := by decide +kernel
theorem dL_isMoved_27 : decode cL_isMoved 27 = .ok (.dstore 9, 2) := by decide +kernel
theorem dL_isMoved_29 : decode cL_isMoved 29 = .ok (.aload_n 0, 1) := by decide +kernel
theorem dL_isMoved_30 : decode cL_isMoved 30 = .ok (.iconst 0, 1) := by decide +kernel
theorem dL_isMoved_31 : decode cL_isMoved 31 = .ok (.invokevirtual 39, 3) := by decide +kernel
theorem dL_isMoved_34 : decode cL_isMoved 34 = .ok (.dstore 11, 2) := by decide +kernel
theorem dL_isMoved_36 : decode cL_isMoved 36 = .ok (.aload_n 0, 1) := by decide +kernel
theorem dL_isMoved_37 : decode cL_isMoved 37 = .ok (.invokevirtual 42, 3) := by decide +kernel
theorem dL_isMoved_40 : decode cL_isMoved 40 = .ok (.dstore 13, 2) := by decide +kernel
theorem dL_isMoved_42 : decode cL_isMoved 42 = .ok (.dload 13, 2) := by decide +kernel
theorem dL_isMoved_44 : decode cL_isMoved 44 = .ok (.dconst 0, 1) := by decide +kernel
theorem dL_isMoved_45 : decode cL_isMoved 45 = .ok (.dcmp .l, 1) := by decide +kernel
theorem dL_isMoved_46 : decode cL_isMoved 46 = .ok (.ifCond .lt 93, 3) := by decide +kernel
theorem dL_isMoved_49 : decode cL_isMoved 49 = .ok (.aload_n 0, 1) := by decide +kernel
theorem dL_isMoved_50 : decode cL_isMoved 50 = .ok (.invokestatic 23, 3) := by decide +kernel
theorem dL_isMoved_53 : decode cL_isMoved 53 = .ok (.dload_n 1, 1) := by decide +kernel
theorem dL_isMoved_54 : decode cL_isMoved 54 = .ok (.invokestatic 45, 3) := by decide +kernel
theorem dL_isMoved_57 : decode cL_isMoved 57 = .ok (.ifCond .eq 82, 3) := by decide +kernel
theorem dL_isMoved_60 : decode cL_isMoved 60 = .ok (.aload_n 0, 1) := by decide +kernel
theorem dL_isMoved_61 : decode cL_isMoved 61 = .ok (.invokestatic 29, 3) := by decide +kernel
theorem dL_isMoved_64 : decode cL_isMoved 64 = .ok (.dload_n 3, 1) := by decide +kernel
theorem dL_isMoved_65 : decode cL_isMoved 65 = .ok (.invokestatic 45, 3) := by decide +kernel
theorem dL_isMoved_68 : decode cL_isMoved 68 = .ok (.ifCond .eq 71, 3) := by decide +kernel
theorem dL_isMoved_71 : decode cL_isMoved 71 = .ok (.aload_n 0, 1) := by decide +kernel
theorem dL_isMoved_72 : decode cL_isMoved 72 = .ok (.invokevirtual 32, 3) := by decide +kernel
theorem dL_isMoved_75 : decode cL_isMoved 75 = .ok (.dload 5, 2) := by decide +kernel
theorem dL_isMoved_77 : decode cL_isMoved 77 = .ok (.invokestatic 45, 3) := by decide +kernel
theorem dL_isMoved_80 : decode cL_isMoved 80 = .ok (.ifCond .eq 59, 3) := by decide +kernel
theorem dL_isMoved_83 : decode cL_isMoved 83 = .ok (.aload_n 0, 1) := by decide +kernel
theorem dL_isMoved_84 : decode cL_isMoved 84 = .ok (.invokevirtual 36, 3) := by decide +kernel
theorem dL_isMoved_87 : decode cL_isMoved 87 = .ok (.dload 7, 2) := by decide +kernel
theorem dL_isMoved_89 : decode cL_isMoved 89 = .ok (.invokestatic 45, 3) := by decide +kernel
theorem dL_isMoved_92 : decode cL_isMoved 92 = .ok (.ifCond .eq 47, 3) := by decide +kernel
theorem dL_isMoved_95 : decode cL_isMoved 95 = .ok (.aload_n 0, 1) := by decide +kernel
theorem dL_isMoved_96 : decode cL_isMoved 96 = .ok (.iconst 0, 1) := by decide +kernel
theorem dL_isMoved_97 : decode cL_isMoved 97 = .ok (.invokevirtual 16, 3) := by decide +kernel
theorem dL_isMoved_100 : decode cL_isMoved 100 = .ok (.dload 9, 2) := by decide +kernel
theorem dL_isMoved_102 : decode cL_isMoved 102 = .ok (.dcmp .g, 1) := by decide +kernel
theorem dL_isMoved_103 : decode cL_isMoved 103 = .ok (.ifCond .gt 36, 3) := by decide +kernel
theorem dL_isMoved_106 : decode cL_isMoved 106 = .ok (.dload 9, 2) := by decide +kernel
theorem dL_isMoved_108 : decode cL_isMoved 108 = .ok (.aload_n 0, 1) := by decide +kernel
theorem dL_isMoved_109 : decode cL_isMoved 109 = .ok (.iconst 0, 1) := by decide +kernel
theorem dL_isMoved_110 : decode cL_isMoved 110 = .ok (.invokevirtual 16, 3) := by decide +kernel
theorem dL_isMoved_113 : decode cL_isMoved 113 = .ok (.dsub, 1) := by decide +kernel
theorem dL_isMoved_114 : decode cL_isMoved 114 = .ok (.dload 13, 2) := by decide +kernel
theorem dL_isMoved_116 : decode cL_isMoved 116 = .ok (.ldc2_w 8, 3) := by decide +kernel
theorem dL_isMoved_119 : decode cL_isMoved 119 = .ok (.dadd, 1) := by decide +kernel
theorem dL_isMoved_120 : decode cL_isMoved 120 = .ok (.dcmp .g, 1) := by decide +kernel
theorem dL_isMoved_121 : decode cL_isMoved 121 = .ok (.ifCond .gt 18, 3) := by decide +kernel
theorem dL_isMoved_124 : decode cL_isMoved 124 = .ok (.aload_n 0, 1) := by decide +kernel
theorem dL_isMoved_125 : decode cL_isMoved 125 = .ok (.iconst 0, 1) := by decide +kernel
theorem dL_isMoved_126 : decode cL_isMoved 126 = .ok (.invokevirtual 39, 3) := by decide +kernel
theorem dL_isMoved_129 : decode cL_isMoved 129 = .ok (.dload 11, 2) := by decide +kernel
theorem dL_isMoved_131 : decode cL_isMoved 131 = .ok (.dcmp .l, 1) := by decide +kernel
theorem dL_isMoved_132 : decode cL_isMoved 132 = .ok (.ifCond .ne 7, 3) := by decide +kernel
theorem dL_isMoved_135 : decode cL_isMoved 135 = .ok (.iconst 1, 1) := by decide +kernel
theorem dL_isMoved_136 : decode cL_isMoved 136 = .ok (.goto 4, 3) := by decide +kernel
theorem dL_isMoved_139 : decode cL_isMoved 139 = .ok (.iconst 0, 1) := by decide +kernel
theorem dL_isMoved_140 : decode cL_isMoved 140 = .ok (.istore 15, 2) := by decide +kernel
theorem dL_isMoved_142 : decode cL_isMoved 142 = .ok (.iload 15, 2) := by decide +kernel
theorem dL_isMoved_144 : decode cL_isMoved 144 = .ok (.ifCond .eq 25, 3) := by decide +kernel
theorem dL_isMoved_147 : decode cL_isMoved 147 = .ok (.dload 13, 2) := by decide +kernel
theorem dL_isMoved_149 : decode cL_isMoved 149 = .ok (.dconst 0, 1) := by decide +kernel
theorem dL_isMoved_150 : decode cL_isMoved 150 = .ok (.dcmp .l, 1) := by decide +kernel
theorem dL_isMoved_151 : decode cL_isMoved 151 = .ok (.ifCond .gt 14, 3) := by decide +kernel
theorem dL_isMoved_154 : decode cL_isMoved 154 = .ok (.aload_n 0, 1) := by decide +kernel
theorem dL_isMoved_155 : decode cL_isMoved 155 = .ok (.iconst 0, 1) := by decide +kernel
theorem dL_isMoved_156 : decode cL_isMoved 156 = .ok (.invokevirtual 16, 3) := by decide +kernel
theorem dL_isMoved_159 : decode cL_isMoved 159 = .ok (.dload 9, 2) := by decide +kernel
theorem dL_isMoved_161 : decode cL_isMoved 161 = .ok (.dcmp .l, 1) := by decide +kernel
theorem dL_isMoved_162 : decode cL_isMoved 162 = .ok (.ifCond .ne 7, 3) := by decide +kernel
theorem dL_isMoved_165 : decode cL_isMoved 165 = .ok (.iconst 1, 1) := by decide +kernel
theorem dL_isMoved_166 : decode cL_isMoved 166 = .ok (.goto 4, 3) := by decide +kernel
theorem dL_isMoved_169 : decode cL_isMoved 169 = .ok (.iconst 0, 1) := by decide +kernel
theorem dL_isMoved_170 : decode cL_isMoved 170 = .ok (.ireturn, 1) := by decide +kernel
set_option maxRecDepth 20000 in
theorem ggL_isAged_L_litres : GoodIn wsL_isAged wsL_litres := goodIn_ca (goodIn_r _ [10, 11, 12, 13, 14, 15, 16, 17, 18, 19, 20, 21, 22, 23, 24, 25, 26, 27, 28, 29, 150, 151, 152, 153, 154, 155, 156, 157, 158, 159, 160, 161, 162, 163, 164] (by decide +kernel) (by decide +kernel)) (goodIn_sub (fun _ h => List.mem_cons_of_mem _ (List.mem_append_right _ h)) (by decide +kernel))
set_option maxRecDepth 20000 in
theorem gL_isAged_L_litres : GoodIn wsL_isAged (va_wsS RL 23 yL_litres wsL_litres) := goodIn_app (goodIn_of _ (by decide +kernel)) ggL_isAged_L_litres
set_option maxRecDepth 20000 in
theorem ggL_isAged_X2_oldest : GoodIn wsL_isAged wsX2_oldest := goodIn_r _ [33, 16, 34, 35, 36, 37, 38, 39, 40, 41, 42, 43, 44, 45, 46, 47, 150, 151, 152, 153, 154, 155, 156, 157, 158, 159, 160, 161, 162, 163, 164] (by decide +kernel) (by decide +kernel)
set_option maxRecDepth 20000 in
theorem gL_isAged_X2_oldest : GoodIn wsL_isAged (wsV RL 49 RX2 yX2_oldest wsX2_oldest) := goodIn_app (goodIn_of _ (by decide +kernel)) ggL_isAged_X2_oldest
set_option maxRecDepth 20000 in
theorem ggL_isAged_X2_ageOf : GoodIn wsL_isAged wsX2_ageOf := goodIn_ca (goodIn_r _ [51, 52, 23, 24, 25, 14, 26, 27, 28, 16, 17, 29, 159, 160, 161, 162, 163, 164, 150, 151, 152, 153, 154, 155, 156, 157, 158] (by decide +kernel) (by decide +kernel)) (goodIn_sub (fun _ h => List.mem_cons_of_mem _ (List.mem_append_right _ h)) (by decide +kernel))
set_option maxRecDepth 20000 in
theorem gL_isAged_X2_ageOf : GoodIn wsL_isAged (wsV RL 52 RX2 yX2_ageOf wsX2_ageOf) := goodIn_app (goodIn_of _ (by decide +kernel)) ggL_isAged_X2_ageOf
set_option maxRecDepth 20000 in
theorem ggL_isAged_X2_barrels : GoodIn wsL_isAged wsX2_barrels := goodIn_r _ [15, 16, 17, 150, 151, 152, 153, 154, 155, 156, 157, 158] (by decide +kernel) (by decide +kernel)
set_option maxRecDepth 20000 in
theorem gL_isAged_X2_barrels : GoodIn wsL_isAged (wsV RL 10 RX2 yX2_barrels wsX2_barrels) := goodIn_app (goodIn_of _ (by decide +kernel)) ggL_isAged_X2_barrels
set_option maxRecDepth 20000 in
theorem ggL_isAged_X2_litresIn : GoodIn wsL_isAged wsX2_litresIn := goodIn_ca (goodIn_r _ [21, 22, 23, 24, 25, 14, 26, 27, 28, 16, 17, 29, 159, 160, 161, 162, 163, 164, 150, 151, 152, 153, 154, 155, 156, 157, 158] (by decide +kernel) (by decide +kernel)) (goodIn_sub (fun _ h => List.mem_cons_of_mem _ (List.mem_append_right _ h)) (by decide +kernel))
set_option maxRecDepth 20000 in
theorem gL_isAged_X2_litresIn : GoodIn wsL_isAged (wsV RL 16 RX2 yX2_litresIn wsX2_litresIn) := goodIn_app (goodIn_of _ (by decide +kernel)) ggL_isAged_X2_litresIn
set_option maxRecDepth 20000 in
theorem ggL_isAged_X2_years : GoodIn wsL_isAged wsX2_years := goodIn_r _ [56, 57, 150, 151, 152, 153] (by decide +kernel) (by decide +kernel)
set_option maxRecDepth 20000 in
theorem gL_isAged_X2_years : GoodIn wsL_isAged (wsV RL 55 RX2 yX2_years wsX2_years) := goodIn_app (goodIn_of _ (by decide +kernel)) ggL_isAged_X2_years
set_option maxRecDepth 20000 in
theorem ggL_isAged_X2_year : GoodIn wsL_isAged wsX2_year := goodIn_r _ [61, 57, 16, 62, 63, 64, 37, 65, 39, 40, 66, 67, 68, 69, 70, 71, 72, 73, 74, 75, 76, 42, 43, 44, 45, 46, 47, 77, 78, 79, 80, 81, 82, 83, 84, 85, 86, 87, 88, 89, 90, 91, 92, 93, 94, 95, 96, 97, 98, 99, 100, 101, 102, 103, 104, 105, 106, 107, 108, 109, 110, 111, 112, 35, 36, 38, 41, 150, 151, 152, 153, 154, 155, 156, 157, 158, 159, 160, 161, 162, 163, 164] (by decide +kernel) (by decide +kernel)
set_option maxRecDepth 20000 in
theorem gL_isAged_X2_year : GoodIn wsL_isAged (wsV RL 58 RX2 yX2_year wsX2_year) := goodIn_app (goodIn_of _ (by decide +kernel)) ggL_isAged_X2_year
set_option maxRecDepth 20000 in
theorem ggL_isAged_L_isNear : GoodIn wsL_isAged wsL_isNear := goodIn_r _ [115, 5] (by decide +kernel) (by decide +kernel)
set_option maxRecDepth 20000 in
theorem gL_isAged_L_isNear : GoodIn wsL_isAged (va_wsS RL 45 yL_isNear wsL_isNear) := goodIn_app (goodIn_of _ (by decide +kernel)) ggL_isAged_L_isNear
set_option maxRecDepth 20000 in
theorem ggL_isAged_X2_sugarOf : GoodIn wsL_isAged wsX2_sugarOf := goodIn_ca (goodIn_r _ [119, 120, 23, 24, 25, 14, 26, 27, 28, 16, 17, 29, 159, 160, 161, 162, 163, 164, 150, 151, 152, 153, 154, 155, 156, 157, 158] (by decide +kernel) (by decide +kernel)) (goodIn_sub (fun _ h => List.mem_cons_of_mem _ (List.mem_append_right _ h)) (by decide +kernel))
set_option maxRecDepth 20000 in
theorem gL_isAged_X2_sugarOf : GoodIn wsL_isAged (wsV RL 63 RX2 yX2_sugarOf wsX2_sugarOf) := goodIn_app (goodIn_of _ (by decide +kernel)) ggL_isAged_X2_sugarOf
set_option maxRecDepth 20000 in
theorem ggL_isAged_X2_acidOf : GoodIn wsL_isAged wsX2_acidOf := goodIn_ca (goodIn_r _ [124, 125, 23, 24, 25, 14, 26, 27, 28, 16, 17, 29, 159, 160, 161, 162, 163, 164, 150, 151, 152, 153, 154, 155, 156, 157, 158] (by decide +kernel) (by decide +kernel)) (goodIn_sub (fun _ h => List.mem_cons_of_mem _ (List.mem_append_right _ h)) (by decide +kernel))
set_option maxRecDepth 20000 in
theorem gL_isAged_X2_acidOf : GoodIn wsL_isAged (wsV RL 20 RX2 yX2_acidOf wsX2_acidOf) := goodIn_app (goodIn_of _ (by decide +kernel)) ggL_isAged_X2_acidOf
set_option maxRecDepth 20000 in
theorem ggL_isAged_X2_meanAge : GoodIn wsL_isAged wsX2_meanAge := goodIn_r _ [129, 16, 130, 131, 132, 37, 133, 39, 40, 68, 134, 135, 136, 137, 41, 150, 151, 152, 153, 154, 155, 156, 157, 158, 159, 160, 161, 162, 163, 164] (by decide +kernel) (by decide +kernel)
set_option maxRecDepth 20000 in
theorem gL_isAged_X2_meanAge : GoodIn wsL_isAged (wsV RL 32 RX2 yX2_meanAge wsX2_meanAge) := goodIn_app (goodIn_of _ (by decide +kernel)) ggL_isAged_X2_meanAge
set_option maxRecDepth 20000 in
theorem ggL_isAged_X2_drawable : GoodIn wsL_isAged wsX2_drawable := goodIn_r _ [141, 16, 142, 143, 144, 37, 145, 66, 40, 41, 146, 147, 148, 69, 68, 149, 112, 35, 36, 38, 39, 42, 43, 44, 45, 46, 47, 150, 151, 152, 153, 154, 155, 156, 157, 158, 159, 160, 161, 162, 163, 164] (by decide +kernel) (by decide +kernel)
set_option maxRecDepth 20000 in
theorem gL_isAged_X2_drawable : GoodIn wsL_isAged (wsV RL 70 RX2 yX2_drawable wsX2_drawable) := goodIn_app (goodIn_of _ (by decide +kernel)) ggL_isAged_X2_drawable
theorem dL_isAged_0 : decode cL_isAged 0 = .ok (.aload_n 0, 1) := by decide +kernel
theorem dL_isAged_1 : decode cL_isAged 1 = .ok (.invokestatic 23, 3) := by decide +kernel
theorem dL_isAged_4 : decode cL_isAged 4 = .ok (.dstore_n 1, 1) := by decide +kernel
theorem dL_isAged_5 : decode cL_isAged 5 = .ok (.aload_n 0, 1) := by decide +kernel
theorem dL_isAged_6 : decode cL_isAged 6 = .ok (.invokevirtual 49, 3) := by decide +kernel
theorem dL_isAged_9 : decode cL_isAged 9 = .ok (.ifCond .ge 7, 3) := by decide +kernel
theorem dL_isAged_12 : decode cL_isAged 12 = .ok (.dconst 0, 1) := by decide +kernel
theorem dL_isAged_13 : decode cL_isAged 13 = .ok (.goto 11, 3) := by decide +kernel
theorem dL_isAged_16 : decode cL_isAged 16 = .ok (.aload_n 0, 1) := by decide +kernel
theorem dL_isAged_17 : decode cL_isAged 17 = .ok (.aload_n 0, 1) := by decide +kernel
theorem dL_isAged_18 : decode cL_isAged 18 = .ok (.invokevirtual 49, 3) := by decide +kernel
theorem dL_isAged_21 : decode cL_isAged 21 = .ok (.invokevirtual 52, 3) := by decide +kernel
theorem dL_isAged_24 : decode cL_isAged 24 = .ok (.dstore_n 3, 1) := by decide +kernel
theorem dL_isAged_25 : decode cL_isAged 25 = .ok (.bipush 8, 2) := by decide +kernel
theorem dL_isAged_27 : decode cL_isAged 27 = .ok (.newarray .double, 2) := by decide +kernel
theorem dL_isAged_29 : decode cL_isAged 29 = .ok (.astore 5, 2) := by decide +kernel
theorem dL_isAged_31 : decode cL_isAged 31 = .ok (.iconst 0, 1) := by decide +kernel
theorem dL_isAged_32 : decode cL_isAged 32 = .ok (.istore 6, 2) := by decide +kernel
theorem dL_isAged_34 : decode cL_isAged 34 = .ok (.iload 6, 2) := by decide +kernel
theorem dL_isAged_36 : decode cL_isAged 36 = .ok (.aload_n 0, 1) := by decide +kernel
theorem dL_isAged_37 : decode cL_isAged 37 = .ok (.invokevirtual 10, 3) := by decide +kernel
theorem dL_isAged_40 : decode cL_isAged 40 = .ok (.if_icmp .ge 20, 3) := by decide +kernel
theorem dL_isAged_43 : decode cL_isAged 43 = .ok (.aload 5, 2) := by decide +kernel
theorem dL_isAged_45 : decode cL_isAged 45 = .ok (.iload 6, 2) := by decide +kernel
theorem dL_isAged_47 : decode cL_isAged 47 = .ok (.aload_n 0, 1) := by decide +kernel
theorem dL_isAged_48 : decode cL_isAged 48 = .ok (.iload 6, 2) := by decide +kernel
theorem dL_isAged_50 : decode cL_isAged 50 = .ok (.invokevirtual 16, 3) := by decide +kernel
theorem dL_isAged_53 : decode cL_isAged 53 = .ok (.dastore, 1) := by decide +kernel
theorem dL_isAged_54 : decode cL_isAged 54 = .ok (.iinc 6 1, 3) := by decide +kernel
theorem dL_isAged_57 : decode cL_isAged 57 = .ok (.goto (-23), 3) := by decide +kernel
theorem dL_isAged_60 : decode cL_isAged 60 = .ok (.aload_n 0, 1) := by decide +kernel
theorem dL_isAged_61 : decode cL_isAged 61 = .ok (.invokevirtual 55, 3) := by decide +kernel
theorem dL_isAged_64 : decode cL_isAged 64 = .ok (.istore 6, 2) := by decide +kernel
theorem dL_isAged_66 : decode cL_isAged 66 = .ok (.aload_n 0, 1) := by decide +kernel
theorem dL_isAged_67 : decode cL_isAged 67 = .ok (.invokevirtual 58, 3) := by decide +kernel
theorem dL_isAged_70 : decode cL_isAged 70 = .ok (.dstore 7, 2) := by decide +kernel
theorem dL_isAged_72 : decode cL_isAged 72 = .ok (.aload_n 0, 1) := by decide +kernel
theorem dL_isAged_73 : decode cL_isAged 73 = .ok (.invokevirtual 55, 3) := by decide +kernel
theorem dL_isAged_76 : decode cL_isAged 76 = .ok (.iload 6, 2) := by decide +kernel
theorem dL_isAged_78 : decode cL_isAged 78 = .ok (.iconst 1, 1) := by decide +kernel
theorem dL_isAged_79 : decode cL_isAged 79 = .ok (.iadd, 1) := by decide +kernel
theorem dL_isAged_80 : decode cL_isAged 80 = .ok (.if_icmp .ne 59, 3) := by decide +kernel
theorem dL_isAged_83 : decode cL_isAged 83 = .ok (.aload_n 0, 1) := by decide +kernel
theorem dL_isAged_84 : decode cL_isAged 84 = .ok (.invokestatic 23, 3) := by decide +kernel
theorem dL_isAged_87 : decode cL_isAged 87 = .ok (.dload 7, 2) := by decide +kernel
theorem dL_isAged_89 : decode cL_isAged 89 = .ok (.dadd, 1) := by decide +kernel
theorem dL_isAged_90 : decode cL_isAged 90 = .ok (.dload_n 1, 1) := by decide +kernel
theorem dL_isAged_91 : decode cL_isAged 91 = .ok (.invokestatic 45, 3) := by decide +kernel
theorem dL_isAged_94 : decode cL_isAged 94 = .ok (.ifCond .eq 45, 3) := by decide +kernel
theorem dL_isAged_97 : decode cL_isAged 97 = .ok (.dload_n 1, 1) := by decide +kernel
theorem dL_isAged_98 : decode cL_isAged 98 = .ok (.dconst 0, 1) := by decide +kernel
theorem dL_isAged_99 : decode cL_isAged 99 = .ok (.dcmp .l, 1) := by decide +kernel
theorem dL_isAged_100 : decode cL_isAged 100 = .ok (.ifCond .ne 13, 3) := by decide +kernel
theorem dL_isAged_103 : decode cL_isAged 103 = .ok (.dload 7, 2) := by decide +kernel
theorem dL_isAged_105 : decode cL_isAged 105 = .ok (.dconst 0, 1) := by decide +kernel
theorem dL_isAged_106 : decode cL_isAged 106 = .ok (.dcmp .l, 1) := by decide +kernel
theorem dL_isAged_107 : decode cL_isAged 107 = .ok (.ifCond .ne 32, 3) := by decide +kernel
theorem dL_isAged_110 : decode cL_isAged 110 = .ok (.goto 25, 3) := by decide +kernel
theorem dL_isAged_113 : decode cL_isAged 113 = .ok (.dload 7, 2) := by decide +kernel
theorem dL_isAged_115 : decode cL_isAged 115 = .ok (.dconst 0, 1) := by decide +kernel
theorem dL_isAged_116 : decode cL_isAged 116 = .ok (.dcmp .l, 1) := by decide +kernel
theorem dL_isAged_117 : decode cL_isAged 117 = .ok (.ifCond .le 22, 3) := by decide +kernel
theorem dL_isAged_120 : decode cL_isAged 120 = .ok (.aload_n 0, 1) := by decide +kernel
theorem dL_isAged_121 : decode cL_isAged 121 = .ok (.aload_n 0, 1) := by decide +kernel
theorem dL_isAged_122 : decode cL_isAged 122 = .ok (.invokevirtual 49, 3) := by decide +kernel
theorem dL_isAged_125 : decode cL_isAged 125 = .ok (.invokevirtual 52, 3) := by decide +kernel
theorem dL_isAged_128 : decode cL_isAged 128 = .ok (.dload_n 3, 1) := by decide +kernel
theorem dL_isAged_129 : decode cL_isAged 129 = .ok (.dconst 1, 1) := by decide +kernel
theorem dL_isAged_130 : decode cL_isAged 130 = .ok (.dadd, 1) := by decide +kernel
theorem dL_isAged_131 : decode cL_isAged 131 = .ok (.dcmp .l, 1) := by decide +kernel
theorem dL_isAged_132 : decode cL_isAged 132 = .ok (.ifCond .ne 7, 3) := by decide +kernel
theorem dL_isAged_135 : decode cL_isAged 135 = .ok (.iconst 1, 1) := by decide +kernel
theorem dL_isAged_136 : decode cL_isAged 136 = .ok (.goto 4, 3) := by decide +kernel
theorem dL_isAged_139 : decode cL_isAged 139 = .ok (.iconst 0, 1) := by decide +kernel
theorem dL_isAged_140 : decode cL_isAged 140 = .ok (.istore 9, 2) := by decide +kernel
theorem dL_isAged_142 : decode cL_isAged 142 = .ok (.iconst 0, 1) := by decide +kernel
theorem dL_isAged_143 : decode cL_isAged 143 = .ok (.istore 10, 2) := by decide +kernel
theorem dL_isAged_145 : decode cL_isAged 145 = .ok (.iload 10, 2) := by decide +kernel
theorem dL_isAged_147 : decode cL_isAged 147 = .ok (.aload_n 0, 1) := by decide +kernel
theorem dL_isAged_148 : decode cL_isAged 148 = .ok (.invokevirtual 10, 3) := by decide +kernel
theorem dL_isAged_151 : decode cL_isAged 151 = .ok (.if_icmp .ge 123, 3) := by decide +kernel
theorem dL_isAged_154 : decode cL_isAged 154 = .ok (.aload_n 0, 1) := by decide +kernel
theorem dL_isAged_155 : decode cL_isAged 155 = .ok (.iload 10, 2) := by decide +kernel
theorem dL_isAged_157 : decode cL_isAged 157 = .ok (.invokevirtual 16, 3) := by decide +kernel
theorem dL_isAged_160 : decode cL_isAged 160 = .ok (.dstore 11, 2) := by decide +kernel
theorem dL_isAged_162 : decode cL_isAged 162 = .ok (.iload 9, 2) := by decide +kernel
theorem dL_isAged_164 : decode cL_isAged 164 = .ok (.ifCond .eq 101, 3) := by decide +kernel
theorem dL_isAged_167 : decode cL_isAged 167 = .ok (.dload 11, 2) := by decide +kernel
theorem dL_isAged_169 : decode cL_isAged 169 = .ok (.aload 5, 2) := by decide +kernel
theorem dL_isAged_171 : decode cL_isAged 171 = .ok (.iload 10, 2) := by decide +kernel
theorem dL_isAged_173 : decode cL_isAged 173 = .ok (.daload, 1) := by decide +kernel
theorem dL_isAged_174 : decode cL_isAged 174 = .ok (.dcmp .g, 1) := by decide +kernel
theorem dL_isAged_175 : decode cL_isAged 175 = .ok (.ifCond .gt 90, 3) := by decide +kernel
theorem dL_isAged_178 : decode cL_isAged 178 = .ok (.dload 11, 2) := by decide +kernel
theorem dL_isAged_180 : decode cL_isAged 180 = .ok (.ldc2_w 61, 3) := by decide +kernel
theorem dL_isAged_183 : decode cL_isAged 183 = .ok (.aload 5, 2) := by decide +kernel
theorem dL_isAged_185 : decode cL_isAged 185 = .ok (.iload 10, 2) := by decide +kernel
theorem dL_isAged_187 : decode cL_isAged 187 = .ok (.daload, 1) := by decide +kernel
theorem dL_isAged_188 : decode cL_isAged 188 = .ok (.dmul, 1) := by decide +kernel
theorem dL_isAged_189 : decode cL_isAged 189 = .ok (.dcmp .l, 1) := by decide +kernel
theorem dL_isAged_190 : decode cL_isAged 190 = .ok (.ifCond .lt 75, 3) := by decide +kernel
theorem dL_isAged_193 : decode cL_isAged 193 = .ok (.aload 5, 2) := by decide +kernel
theorem dL_isAged_195 : decode cL_isAged 195 = .ok (.iload 10, 2) := by decide +kernel
theorem dL_isAged_197 : decode cL_isAged 197 = .ok (.daload, 1) := by decide +kernel
theorem dL_isAged_198 : decode cL_isAged 198 = .ok (.dconst 0, 1) := by decide +kernel
theorem dL_isAged_199 : decode cL_isAged 199 = .ok (.dcmp .l, 1) := by decide +kernel
theorem dL_isAged_200 : decode cL_isAged 200 = .ok (.ifCond .eq 14, 3) := by decide +kernel
theorem dL_isAged_203 : decode cL_isAged 203 = .ok (.dload 11, 2) := by decide +kernel
theorem dL_isAged_205 : decode cL_isAged 205 = .ok (.aload 5, 2) := by decide +kernel
theorem dL_isAged_207 : decode cL_isAged 207 = .ok (.iload 10, 2) := by decide +kernel
theorem dL_isAged_209 : decode cL_isAged 209 = .ok (.daload, 1) := by decide +kernel
theorem dL_isAged_210 : decode cL_isAged 210 = .ok (.dcmp .g, 1) := by decide +kernel
theorem dL_isAged_211 : decode cL_isAged 211 = .ok (.ifCond .ge 54, 3) := by decide +kernel
theorem dL_isAged_214 : decode cL_isAged 214 = .ok (.aload_n 0, 1) := by decide +kernel
theorem dL_isAged_215 : decode cL_isAged 215 = .ok (.iload 10, 2) := by decide +kernel
theorem dL_isAged_217 : decode cL_isAged 217 = .ok (.invokevirtual 63, 3) := by decide +kernel
theorem dL_isAged_220 : decode cL_isAged 220 = .ok (.ldc2_w 66, 3) := by decide +kernel
theorem dL_isAged_223 : decode cL_isAged 223 = .ok (.dcmp .g, 1) := by decide +kernel
theorem dL_isAged_224 : decode cL_isAged 224 = .ok (.ifCond .gt 41, 3) := by decide +kernel
theorem dL_isAged_227 : decode cL_isAged 227 = .ok (.aload_n 0, 1) := by decide +kernel
theorem dL_isAged_228 : decode cL_isAged 228 = .ok (.iload 10, 2) := by decide +kernel
theorem dL_isAged_230 : decode cL_isAged 230 = .ok (.invokevirtual 20, 3) := by decide +kernel
theorem dL_isAged_233 : decode cL_isAged 233 = .ok (.ldc2_w 68, 3) := by decide +kernel
theorem dL_isAged_236 : decode cL_isAged 236 = .ok (.dcmp .g, 1) := by decide +kernel
theorem dL_isAged_237 : decode cL_isAged 237 = .ok (.ifCond .gt 28, 3) := by decide +kernel
theorem dL_isAged_240 : decode cL_isAged 240 = .ok (.aload 5, 2) := by decide +kernel
theorem dL_isAged_242 : decode cL_isAged 242 = .ok (.iload 10, 2) := by decide +kernel
theorem dL_isAged_244 : decode cL_isAged 244 = .ok (.daload, 1) := by decide +kernel
theorem dL_isAged_245 : decode cL_isAged 245 = .ok (.dconst 0, 1) := by decide +kernel
theorem dL_isAged_246 : decode cL_isAged 246 = .ok (.dcmp .l, 1) := by decide +kernel
theorem dL_isAged_247 : decode cL_isAged 247 = .ok (.ifCond .gt 14, 3) := by decide +kernel
theorem dL_isAged_250 : decode cL_isAged 250 = .ok (.aload_n 0, 1) := by decide +kernel
theorem dL_isAged_251 : decode cL_isAged 251 = .ok (.iload 10, 2) := by decide +kernel
theorem dL_isAged_253 : decode cL_isAged 253 = .ok (.invokevirtual 52, 3) := by decide +kernel
theorem dL_isAged_256 : decode cL_isAged 256 = .ok (.dconst 0, 1) := by decide +kernel
theorem dL_isAged_257 : decode cL_isAged 257 = .ok (.dcmp .l, 1) := by decide +kernel
theorem dL_isAged_258 : decode cL_isAged 258 = .ok (.ifCond .ne 7, 3) := by decide +kernel
theorem dL_isAged_261 : decode cL_isAged 261 = .ok (.iconst 1, 1) := by decide +kernel
theorem dL_isAged_262 : decode cL_isAged 262 = .ok (.goto 4, 3) := by decide +kernel
theorem dL_isAged_265 : decode cL_isAged 265 = .ok (.iconst 0, 1) := by decide +kernel
theorem dL_isAged_266 : decode cL_isAged 266 = .ok (.istore 9, 2) := by decide +kernel
theorem dL_isAged_268 : decode cL_isAged 268 = .ok (.iinc 10 1, 3) := by decide +kernel
theorem dL_isAged_271 : decode cL_isAged 271 = .ok (.goto (-126), 3) := by decide +kernel
theorem dL_isAged_274 : decode cL_isAged 274 = .ok (.iload 9, 2) := by decide +kernel
theorem dL_isAged_276 : decode cL_isAged 276 = .ok (.ifCond .eq 61, 3) := by decide +kernel
theorem dL_isAged_279 : decode cL_isAged 279 = .ok (.aload_n 0, 1) := by decide +kernel
theorem dL_isAged_280 : decode cL_isAged 280 = .ok (.invokevirtual 32, 3) := by decide +kernel
theorem dL_isAged_283 : decode cL_isAged 283 = .ok (.aload_n 0, 1) := by decide +kernel
theorem dL_isAged_284 : decode cL_isAged 284 = .ok (.invokevirtual 55, 3) := by decide +kernel
theorem dL_isAged_287 : decode cL_isAged 287 = .ok (.i2d, 1) := by decide +kernel
theorem dL_isAged_288 : decode cL_isAged 288 = .ok (.ldc2_w 8, 3) := by decide +kernel
theorem dL_isAged_291 : decode cL_isAged 291 = .ok (.dadd, 1) := by decide +kernel
theorem dL_isAged_292 : decode cL_isAged 292 = .ok (.dcmp .g, 1) := by decide +kernel
theorem dL_isAged_293 : decode cL_isAged 293 = .ok (.ifCond .gt 44, 3) := by decide +kernel
theorem dL_isAged_296 : decode cL_isAged 296 = .ok (.aload_n 0, 1) := by decide +kernel
theorem dL_isAged_297 : decode cL_isAged 297 = .ok (.invokevirtual 70, 3) := by decide +kernel
theorem dL_isAged_300 : decode cL_isAged 300 = .ok (.ifCond .eq 33, 3) := by decide +kernel
theorem dL_isAged_303 : decode cL_isAged 303 = .ok (.aload_n 0, 1) := by decide +kernel
theorem dL_isAged_304 : decode cL_isAged 304 = .ok (.aload_n 0, 1) := by decide +kernel
theorem dL_isAged_305 : decode cL_isAged 305 = .ok (.invokevirtual 49, 3) := by decide +kernel
theorem dL_isAged_308 : decode cL_isAged 308 = .ok (.invokevirtual 52, 3) := by decide +kernel
theorem dL_isAged_311 : decode cL_isAged 311 = .ok (.ldc2_w 68, 3) := by decide +kernel
theorem dL_isAged_314 : decode cL_isAged 314 = .ok (.dcmp .l, 1) := by decide +kernel
theorem dL_isAged_315 : decode cL_isAged 315 = .ok (.ifCond .lt 22, 3) := by decide +kernel
theorem dL_isAged_318 : decode cL_isAged 318 = .ok (.aload_n 0, 1) := by decide +kernel
theorem dL_isAged_319 : decode cL_isAged 319 = .ok (.aload_n 0, 1) := by decide +kernel
theorem dL_isAged_320 : decode cL_isAged 320 = .ok (.invokevirtual 49, 3) := by decide +kernel
theorem dL_isAged_323 : decode cL_isAged 323 = .ok (.invokevirtual 63, 3) := by decide +kernel
theorem dL_isAged_326 : decode cL_isAged 326 = .ok (.ldc2_w 73, 3) := by decide +kernel
theorem dL_isAged_329 : decode cL_isAged 329 = .ok (.dcmp .l, 1) := by decide +kernel
theorem dL_isAged_330 : decode cL_isAged 330 = .ok (.ifCond .lt 7, 3) := by decide +kernel
theorem dL_isAged_333 : decode cL_isAged 333 = .ok (.iconst 1, 1) := by decide +kernel
theorem dL_isAged_334 : decode cL_isAged 334 = .ok (.goto 4, 3) := by decide +kernel
theorem dL_isAged_337 : decode cL_isAged 337 = .ok (.iconst 0, 1) := by decide +kernel
theorem dL_isAged_338 : decode cL_isAged 338 = .ok (.ireturn, 1) := by decide +kernel
set_option maxRecDepth 20000 in
theorem ggL_isFilled_L_litres : GoodIn wsL_isFilled wsL_litres := goodIn_ca (goodIn_r _ [5, 6, 7, 8, 9, 10, 11, 12, 13, 14, 15, 16, 17, 18, 19, 20, 21, 22, 23, 24, 79, 80, 81, 82, 83, 84, 85, 86, 87, 88, 89, 90, 91, 92, 93] (by decide +kernel) (by decide +kernel)) (goodIn_sub (fun _ h => List.mem_cons_of_mem _ (List.mem_append_left _ (List.mem_append_right _ h))) (by decide +kernel))
set_option maxRecDepth 20000 in
theorem gL_isFilled_L_litres : GoodIn wsL_isFilled (va_wsS RL 23 yL_litres wsL_litres) := goodIn_app (goodIn_of _ (by decide +kernel)) ggL_isFilled_L_litres
set_option maxRecDepth 20000 in
theorem ggL_isFilled_X2_litresIn : GoodIn wsL_isFilled wsX2_litresIn := goodIn_ca (goodIn_r _ [16, 17, 18, 19, 20, 9, 21, 22, 23, 11, 12, 24, 88, 89, 90, 91, 92, 93, 79, 80, 81, 82, 83, 84, 85, 86, 87] (by decide +kernel) (by decide +kernel)) (goodIn_sub (fun _ h => List.mem_cons_of_mem _ (List.mem_append_left _ (List.mem_append_right _ h))) (by decide +kernel))
set_option maxRecDepth 20000 in
theorem gL_isFilled_X2_litresIn : GoodIn wsL_isFilled (wsV RL 16 RX2 yX2_litresIn wsX2_litresIn) := goodIn_app (goodIn_of _ (by decide +kernel)) ggL_isFilled_X2_litresIn
set_option maxRecDepth 20000 in
theorem ggL_isFilled_X2_fill : GoodIn wsL_isFilled wsX2_fill := goodIn_ca (goodIn_r _ [28, 29, 30, 11, 31, 32, 33, 34, 35, 36, 37, 38, 39, 40, 41, 42, 43, 44, 45, 46, 47, 48, 49, 50, 51, 52, 79, 80, 81, 82, 83, 84, 85, 86, 87, 88, 89, 90, 91, 92, 93] (by decide +kernel) (by decide +kernel)) (goodIn_sub (fun _ h => List.mem_cons_of_mem _ (List.mem_append_right _ h)) (by decide +kernel))
set_option maxRecDepth 20000 in
theorem gL_isFilled_X2_fill : GoodIn wsL_isFilled (wsV RL 75 RX2 yX2_fill wsX2_fill) := goodIn_app (goodIn_of _ (by decide +kernel)) ggL_isFilled_X2_fill
set_option maxRecDepth 20000 in
theorem ggL_isFilled_L_isNear : GoodIn wsL_isFilled wsL_isNear := goodIn_r _ [55, 1] (by decide +kernel) (by decide +kernel)
set_option maxRecDepth 20000 in
theorem gL_isFilled_L_isNear : GoodIn wsL_isFilled (va_wsS RL 45 yL_isNear wsL_isNear) := goodIn_app (goodIn_of _ (by decide +kernel)) ggL_isFilled_L_isNear
set_option maxRecDepth 20000 in
theorem ggL_isFilled_X2_drawable : GoodIn wsL_isFilled wsX2_drawable := goodIn_r _ [59, 11, 60, 61, 62, 34, 63, 64, 37, 65, 66, 67, 68, 69, 39, 70, 71, 72, 73, 74, 36, 75, 76, 77, 44, 78, 46, 79, 80, 81, 82, 83, 84, 85, 86, 87, 88, 89, 90, 91, 92, 93] (by decide +kernel) (by decide +kernel)
set_option maxRecDepth 20000 in
theorem gL_isFilled_X2_drawable : GoodIn wsL_isFilled (wsV RL 70 RX2 yX2_drawable wsX2_drawable) := goodIn_app (goodIn_of _ (by decide +kernel)) ggL_isFilled_X2_drawable
theorem dL_isFilled_0 : decode cL_isFilled 0 = .ok (.aload_n 0, 1) := by decide +kernel
theorem dL_isFilled_1 : decode cL_isFilled 1 = .ok (.invokestatic 23, 3) := by decide +kernel
theorem dL_isFilled_4 : decode cL_isFilled 4 = .ok (.dstore_n 3, 1) := by decide +kernel
theorem dL_isFilled_5 : decode cL_isFilled 5 = .ok (.aload_n 0, 1) := by decide +kernel
theorem dL_isFilled_6 : decode cL_isFilled 6 = .ok (.iconst 0, 1) := by decide +kernel
theorem dL_isFilled_7 : decode cL_isFilled 7 = .ok (.invokevirtual 16, 3) := by decide +kernel
theorem dL_isFilled_10 : decode cL_isFilled 10 = .ok (.dstore 5, 2) := by decide +kernel
theorem dL_isFilled_12 : decode cL_isFilled 12 = .ok (.aload_n 0, 1) := by decide +kernel
theorem dL_isFilled_13 : decode cL_isFilled 13 = .ok (.iload_n 1, 1) := by decide +kernel
theorem dL_isFilled_14 : decode cL_isFilled 14 = .ok (.invokevirtual 75, 3) := by decide +kernel
theorem dL_isFilled_17 : decode cL_isFilled 17 = .ok (.dstore 7, 2) := by decide +kernel
theorem dL_isFilled_19 : decode cL_isFilled 19 = .ok (.dload 7, 2) := by decide +kernel
theorem dL_isFilled_21 : decode cL_isFilled 21 = .ok (.dconst 0, 1) := by decide +kernel
theorem dL_isFilled_22 : decode cL_isFilled 22 = .ok (.dcmp .l, 1) := by decide +kernel
theorem dL_isFilled_23 : decode cL_isFilled 23 = .ok (.ifCond .lt 88, 3) := by decide +kernel
theorem dL_isFilled_26 : decode cL_isFilled 26 = .ok (.dload 7, 2) := by decide +kernel
theorem dL_isFilled_28 : decode cL_isFilled 28 = .ok (.iload_n 1, 1) := by decide +kernel
theorem dL_isFilled_29 : decode cL_isFilled 29 = .ok (.i2d, 1) := by decide +kernel
theorem dL_isFilled_30 : decode cL_isFilled 30 = .ok (.dcmp .g, 1) := by decide +kernel
theorem dL_isFilled_31 : decode cL_isFilled 31 = .ok (.ifCond .gt 80, 3) := by decide +kernel
theorem dL_isFilled_34 : decode cL_isFilled 34 = .ok (.aload_n 0, 1) := by decide +kernel
theorem dL_isFilled_35 : decode cL_isFilled 35 = .ok (.iconst 0, 1) := by decide +kernel
theorem dL_isFilled_36 : decode cL_isFilled 36 = .ok (.invokevirtual 16, 3) := by decide +kernel
theorem dL_isFilled_39 : decode cL_isFilled 39 = .ok (.iload_n 2, 1) := by decide +kernel
theorem dL_isFilled_40 : decode cL_isFilled 40 = .ok (.i2d, 1) := by decide +kernel
theorem dL_isFilled_41 : decode cL_isFilled 41 = .ok (.ldc2_w 8, 3) := by decide +kernel
theorem dL_isFilled_44 : decode cL_isFilled 44 = .ok (.dadd, 1) := by decide +kernel
theorem dL_isFilled_45 : decode cL_isFilled 45 = .ok (.dcmp .g, 1) := by decide +kernel
theorem dL_isFilled_46 : decode cL_isFilled 46 = .ok (.ifCond .gt 65, 3) := by decide +kernel
theorem dL_isFilled_49 : decode cL_isFilled 49 = .ok (.aload_n 0, 1) := by decide +kernel
theorem dL_isFilled_50 : decode cL_isFilled 50 = .ok (.invokestatic 23, 3) := by decide +kernel
theorem dL_isFilled_53 : decode cL_isFilled 53 = .ok (.dload_n 3, 1) := by decide +kernel
theorem dL_isFilled_54 : decode cL_isFilled 54 = .ok (.dload 7, 2) := by decide +kernel
theorem dL_isFilled_56 : decode cL_isFilled 56 = .ok (.dadd, 1) := by decide +kernel
theorem dL_isFilled_57 : decode cL_isFilled 57 = .ok (.invokestatic 45, 3) := by decide +kernel
theorem dL_isFilled_60 : decode cL_isFilled 60 = .ok (.ifCond .eq 51, 3) := by decide +kernel
theorem dL_isFilled_63 : decode cL_isFilled 63 = .ok (.aload_n 0, 1) := by decide +kernel
theorem dL_isFilled_64 : decode cL_isFilled 64 = .ok (.iconst 0, 1) := by decide +kernel
theorem dL_isFilled_65 : decode cL_isFilled 65 = .ok (.invokevirtual 16, 3) := by decide +kernel
theorem dL_isFilled_68 : decode cL_isFilled 68 = .ok (.dload 5, 2) := by decide +kernel
theorem dL_isFilled_70 : decode cL_isFilled 70 = .ok (.dload 7, 2) := by decide +kernel
theorem dL_isFilled_72 : decode cL_isFilled 72 = .ok (.dadd, 1) := by decide +kernel
theorem dL_isFilled_73 : decode cL_isFilled 73 = .ok (.invokestatic 45, 3) := by decide +kernel
theorem dL_isFilled_76 : decode cL_isFilled 76 = .ok (.ifCond .eq 35, 3) := by decide +kernel
theorem dL_isFilled_79 : decode cL_isFilled 79 = .ok (.dload 7, 2) := by decide +kernel
theorem dL_isFilled_81 : decode cL_isFilled 81 = .ok (.iload_n 1, 1) := by decide +kernel
theorem dL_isFilled_82 : decode cL_isFilled 82 = .ok (.i2d, 1) := by decide +kernel
theorem dL_isFilled_83 : decode cL_isFilled 83 = .ok (.dcmp .l, 1) := by decide +kernel
theorem dL_isFilled_84 : decode cL_isFilled 84 = .ok (.ifCond .eq 16, 3) := by decide +kernel
theorem dL_isFilled_87 : decode cL_isFilled 87 = .ok (.aload_n 0, 1) := by decide +kernel
theorem dL_isFilled_88 : decode cL_isFilled 88 = .ok (.iconst 0, 1) := by decide +kernel
theorem dL_isFilled_89 : decode cL_isFilled 89 = .ok (.invokevirtual 16, 3) := by decide +kernel
theorem dL_isFilled_92 : decode cL_isFilled 92 = .ok (.iload_n 2, 1) := by decide +kernel
theorem dL_isFilled_93 : decode cL_isFilled 93 = .ok (.i2d, 1) := by decide +kernel
theorem dL_isFilled_94 : decode cL_isFilled 94 = .ok (.invokestatic 45, 3) := by decide +kernel
end
section
theorem dL_isFilled_97 : decode cL_isFilled 97 = .ok (.ifCond .eq 14, 3) := by decide +kernel
theorem dL_isFilled_100 : decode cL_isFilled 100 = .ok (.aload_n 0, 1) := by decide +kernel
theorem dL_isFilled_101 : decode cL_isFilled 101 = .ok (.invokevirtual 70, 3) := by decide +kernel
theorem dL_isFilled_104 : decode cL_isFilled 104 = .ok (.ifCond .lt 7, 3) := by decide +kernel
theorem dL_isFilled_107 : decode cL_isFilled 107 = .ok (.iconst 1, 1) := by decide +kernel
theorem dL_isFilled_108 : decode cL_isFilled 108 = .ok (.goto 4, 3) := by decide +kernel
theorem dL_isFilled_111 : decode cL_isFilled 111 = .ok (.iconst 0, 1) := by decide +kernel
theorem dL_isFilled_112 : decode cL_isFilled 112 = .ok (.ireturn, 1) := by decide +kernel
set_option maxRecDepth 20000 in
theorem ggL_isBottled_X2_drawable : GoodIn wsL_isBottled wsX2_drawable := goodIn_r _ [6, 7, 8, 9, 10, 11, 12, 13, 14, 15, 16, 17, 18, 19, 20, 21, 22, 23, 24, 25, 26, 27, 28, 29, 30, 31, 32, 93, 94, 95, 96, 97, 98, 99, 100, 101, 102, 103, 104, 105, 106, 107] (by decide +kernel) (by decide +kernel)
set_option maxRecDepth 20000 in
theorem gL_isBottled_X2_drawable : GoodIn wsL_isBottled (wsV RL 70 RX2 yX2_drawable wsX2_drawable) := goodIn_app (goodIn_of _ (by decide +kernel)) ggL_isBottled_X2_drawable
set_option maxRecDepth 20000 in
theorem ggL_isBottled_X2_bottles : GoodIn wsL_isBottled wsX2_bottles := goodIn_ca (goodIn_r _ [36, 37, 38, 39, 93, 94, 95, 96] (by decide +kernel) (by decide +kernel)) (goodIn_sub (fun _ h => List.mem_cons_of_mem _ (List.mem_append_left _ (List.mem_append_right _ h))) (by decide +kernel))
set_option maxRecDepth 20000 in
theorem gL_isBottled_X2_bottles : GoodIn wsL_isBottled (wsV RL 78 RX2 yX2_bottles wsX2_bottles) := goodIn_app (goodIn_of _ (by decide +kernel)) ggL_isBottled_X2_bottles
set_option maxRecDepth 20000 in
theorem ggL_isBottled_L_litres : GoodIn wsL_isBottled wsL_litres := goodIn_ca (goodIn_r _ [43, 44, 45, 46, 5, 47, 7, 48, 49, 50, 51, 52, 53, 54, 55, 56, 57, 58, 59, 60, 93, 94, 95, 96, 97, 98, 99, 100, 101, 102, 103, 104, 105, 106, 107] (by decide +kernel) (by decide +kernel)) (goodIn_sub (fun _ h => List.mem_cons_of_mem _ (List.mem_append_right _ h)) (by decide +kernel))
set_option maxRecDepth 20000 in
theorem gL_isBottled_L_litres : GoodIn wsL_isBottled (va_wsS RL 23 yL_litres wsL_litres) := goodIn_app (goodIn_of _ (by decide +kernel)) ggL_isBottled_L_litres
set_option maxRecDepth 20000 in
theorem ggL_isBottled_X2_draw : GoodIn wsL_isBottled wsX2_draw := goodIn_ca (goodIn_r _ [64, 37, 38, 7, 39, 8, 9, 10, 11, 12, 13, 14, 15, 16, 17, 18, 19, 20, 21, 22, 23, 24, 25, 26, 27, 28, 29, 30, 31, 32, 65, 66, 67, 68, 69, 70, 5, 71, 72, 73, 74, 75, 76, 77, 78, 79, 80, 81, 82, 83, 84, 85, 86, 87, 88, 93, 94, 95, 96, 97, 98, 99, 100, 101, 102, 103, 104, 105, 106, 107] (by decide +kernel) (by decide +kernel)) (goodIn_sub (fun _ h => List.mem_cons_of_mem _ (List.mem_append_left _ (List.mem_append_right _ h))) (by decide +kernel))
set_option maxRecDepth 20000 in
theorem gL_isBottled_X2_draw : GoodIn wsL_isBottled (wsV RL 82 RX2 yX2_draw wsX2_draw) := goodIn_app (goodIn_of _ (by decide +kernel)) ggL_isBottled_X2_draw
set_option maxRecDepth 20000 in
theorem ggL_isBottled_L_isNear : GoodIn wsL_isBottled wsL_isNear := goodIn_r _ [91, 92] (by decide +kernel) (by decide +kernel)
set_option maxRecDepth 20000 in
theorem gL_isBottled_L_isNear : GoodIn wsL_isBottled (va_wsS RL 45 yL_isNear wsL_isNear) := goodIn_app (goodIn_of _ (by decide +kernel)) ggL_isBottled_L_isNear
theorem dL_isBottled_0 : decode cL_isBottled 0 = .ok (.aload_n 0, 1) := by decide +kernel
theorem dL_isBottled_1 : decode cL_isBottled 1 = .ok (.invokevirtual 70, 3) := by decide +kernel
theorem dL_isBottled_4 : decode cL_isBottled 4 = .ok (.istore_n 2, 1) := by decide +kernel
theorem dL_isBottled_5 : decode cL_isBottled 5 = .ok (.aload_n 0, 1) := by decide +kernel
theorem dL_isBottled_6 : decode cL_isBottled 6 = .ok (.iconst 0, 1) := by decide +kernel
theorem dL_isBottled_7 : decode cL_isBottled 7 = .ok (.invokevirtual 78, 3) := by decide +kernel
theorem dL_isBottled_10 : decode cL_isBottled 10 = .ok (.aload_n 0, 1) := by decide +kernel
theorem dL_isBottled_11 : decode cL_isBottled 11 = .ok (.iconst 1, 1) := by decide +kernel
theorem dL_isBottled_12 : decode cL_isBottled 12 = .ok (.invokevirtual 78, 3) := by decide +kernel
theorem dL_isBottled_15 : decode cL_isBottled 15 = .ok (.iadd, 1) := by decide +kernel
theorem dL_isBottled_16 : decode cL_isBottled 16 = .ok (.aload_n 0, 1) := by decide +kernel
theorem dL_isBottled_17 : decode cL_isBottled 17 = .ok (.iconst 2, 1) := by decide +kernel
theorem dL_isBottled_18 : decode cL_isBottled 18 = .ok (.invokevirtual 78, 3) := by decide +kernel
theorem dL_isBottled_21 : decode cL_isBottled 21 = .ok (.iadd, 1) := by decide +kernel
theorem dL_isBottled_22 : decode cL_isBottled 22 = .ok (.istore_n 3, 1) := by decide +kernel
theorem dL_isBottled_23 : decode cL_isBottled 23 = .ok (.aload_n 0, 1) := by decide +kernel
theorem dL_isBottled_24 : decode cL_isBottled 24 = .ok (.invokestatic 23, 3) := by decide +kernel
theorem dL_isBottled_27 : decode cL_isBottled 27 = .ok (.dstore 4, 2) := by decide +kernel
theorem dL_isBottled_29 : decode cL_isBottled 29 = .ok (.aload_n 0, 1) := by decide +kernel
theorem dL_isBottled_30 : decode cL_isBottled 30 = .ok (.iload_n 1, 1) := by decide +kernel
theorem dL_isBottled_31 : decode cL_isBottled 31 = .ok (.invokevirtual 82, 3) := by decide +kernel
theorem dL_isBottled_34 : decode cL_isBottled 34 = .ok (.istore 6, 2) := by decide +kernel
theorem dL_isBottled_36 : decode cL_isBottled 36 = .ok (.iload 6, 2) := by decide +kernel
theorem dL_isBottled_38 : decode cL_isBottled 38 = .ok (.iload_n 1, 1) := by decide +kernel
theorem dL_isBottled_39 : decode cL_isBottled 39 = .ok (.iload_n 2, 1) := by decide +kernel
theorem dL_isBottled_40 : decode cL_isBottled 40 = .ok (.if_icmp .ge 7, 3) := by decide +kernel
theorem dL_isBottled_43 : decode cL_isBottled 43 = .ok (.iload_n 1, 1) := by decide +kernel
theorem dL_isBottled_44 : decode cL_isBottled 44 = .ok (.goto 4, 3) := by decide +kernel
theorem dL_isBottled_47 : decode cL_isBottled 47 = .ok (.iload_n 2, 1) := by decide +kernel
theorem dL_isBottled_48 : decode cL_isBottled 48 = .ok (.if_icmp .ne 77, 3) := by decide +kernel
theorem dL_isBottled_51 : decode cL_isBottled 51 = .ok (.aload_n 0, 1) := by decide +kernel
theorem dL_isBottled_52 : decode cL_isBottled 52 = .ok (.iconst 0, 1) := by decide +kernel
theorem dL_isBottled_53 : decode cL_isBottled 53 = .ok (.invokevirtual 78, 3) := by decide +kernel
theorem dL_isBottled_56 : decode cL_isBottled 56 = .ok (.aload_n 0, 1) := by decide +kernel
theorem dL_isBottled_57 : decode cL_isBottled 57 = .ok (.iconst 1, 1) := by decide +kernel
theorem dL_isBottled_58 : decode cL_isBottled 58 = .ok (.invokevirtual 78, 3) := by decide +kernel
theorem dL_isBottled_61 : decode cL_isBottled 61 = .ok (.iadd, 1) := by decide +kernel
theorem dL_isBottled_62 : decode cL_isBottled 62 = .ok (.aload_n 0, 1) := by decide +kernel
theorem dL_isBottled_63 : decode cL_isBottled 63 = .ok (.iconst 2, 1) := by decide +kernel
theorem dL_isBottled_64 : decode cL_isBottled 64 = .ok (.invokevirtual 78, 3) := by decide +kernel
theorem dL_isBottled_67 : decode cL_isBottled 67 = .ok (.iadd, 1) := by decide +kernel
theorem dL_isBottled_68 : decode cL_isBottled 68 = .ok (.iload_n 3, 1) := by decide +kernel
theorem dL_isBottled_69 : decode cL_isBottled 69 = .ok (.iload 6, 2) := by decide +kernel
theorem dL_isBottled_71 : decode cL_isBottled 71 = .ok (.iadd, 1) := by decide +kernel
theorem dL_isBottled_72 : decode cL_isBottled 72 = .ok (.if_icmp .ne 53, 3) := by decide +kernel
theorem dL_isBottled_75 : decode cL_isBottled 75 = .ok (.aload_n 0, 1) := by decide +kernel
theorem dL_isBottled_76 : decode cL_isBottled 76 = .ok (.invokestatic 23, 3) := by decide +kernel
theorem dL_isBottled_79 : decode cL_isBottled 79 = .ok (.iload 6, 2) := by decide +kernel
theorem dL_isBottled_81 : decode cL_isBottled 81 = .ok (.i2d, 1) := by decide +kernel
theorem dL_isBottled_82 : decode cL_isBottled 82 = .ok (.ldc2_w 85, 3) := by decide +kernel
theorem dL_isBottled_85 : decode cL_isBottled 85 = .ok (.dmul, 1) := by decide +kernel
theorem dL_isBottled_86 : decode cL_isBottled 86 = .ok (.dadd, 1) := by decide +kernel
theorem dL_isBottled_87 : decode cL_isBottled 87 = .ok (.dload 4, 2) := by decide +kernel
theorem dL_isBottled_89 : decode cL_isBottled 89 = .ok (.invokestatic 45, 3) := by decide +kernel
theorem dL_isBottled_92 : decode cL_isBottled 92 = .ok (.ifCond .eq 33, 3) := by decide +kernel
theorem dL_isBottled_95 : decode cL_isBottled 95 = .ok (.aload_n 0, 1) := by decide +kernel
theorem dL_isBottled_96 : decode cL_isBottled 96 = .ok (.invokevirtual 70, 3) := by decide +kernel
theorem dL_isBottled_99 : decode cL_isBottled 99 = .ok (.iload_n 2, 1) := by decide +kernel
theorem dL_isBottled_100 : decode cL_isBottled 100 = .ok (.iload 6, 2) := by decide +kernel
theorem dL_isBottled_102 : decode cL_isBottled 102 = .ok (.isub, 1) := by decide +kernel
theorem dL_isBottled_103 : decode cL_isBottled 103 = .ok (.iconst 1, 1) := by decide +kernel
theorem dL_isBottled_104 : decode cL_isBottled 104 = .ok (.iadd, 1) := by decide +kernel
theorem dL_isBottled_105 : decode cL_isBottled 105 = .ok (.if_icmp .gt 20, 3) := by decide +kernel
theorem dL_isBottled_108 : decode cL_isBottled 108 = .ok (.aload_n 0, 1) := by decide +kernel
theorem dL_isBottled_109 : decode cL_isBottled 109 = .ok (.invokevirtual 70, 3) := by decide +kernel
theorem dL_isBottled_112 : decode cL_isBottled 112 = .ok (.iload_n 2, 1) := by decide +kernel
theorem dL_isBottled_113 : decode cL_isBottled 113 = .ok (.iload 6, 2) := by decide +kernel
theorem dL_isBottled_115 : decode cL_isBottled 115 = .ok (.isub, 1) := by decide +kernel
theorem dL_isBottled_116 : decode cL_isBottled 116 = .ok (.iconst 1, 1) := by decide +kernel
theorem dL_isBottled_117 : decode cL_isBottled 117 = .ok (.isub, 1) := by decide +kernel
theorem dL_isBottled_118 : decode cL_isBottled 118 = .ok (.if_icmp .lt 7, 3) := by decide +kernel
theorem dL_isBottled_121 : decode cL_isBottled 121 = .ok (.iconst 1, 1) := by decide +kernel
theorem dL_isBottled_122 : decode cL_isBottled 122 = .ok (.goto 4, 3) := by decide +kernel
theorem dL_isBottled_125 : decode cL_isBottled 125 = .ok (.iconst 0, 1) := by decide +kernel
theorem dL_isBottled_126 : decode cL_isBottled 126 = .ok (.ireturn, 1) := by decide +kernel
set_option maxRecDepth 20000 in
theorem ggL_isPoured_L_litres : GoodIn wsL_isPoured wsL_litres := goodIn_ca (goodIn_r _ [4, 5, 6, 7, 8, 9, 10, 11, 12, 13, 14, 15, 16, 17, 18, 19, 20, 21, 22, 23, 62, 63, 64, 65, 66, 67, 68, 69, 70, 71, 72, 73, 74, 75, 76] (by decide +kernel) (by decide +kernel)) (goodIn_sub (fun _ h => List.mem_cons_of_mem _ (List.mem_append_right _ h)) (by decide +kernel))
set_option maxRecDepth 20000 in
theorem gL_isPoured_L_litres : GoodIn wsL_isPoured (va_wsS RL 23 yL_litres wsL_litres) := goodIn_app (goodIn_of _ (by decide +kernel)) ggL_isPoured_L_litres
set_option maxRecDepth 20000 in
theorem ggL_isPoured_X2_litresIn : GoodIn wsL_isPoured wsX2_litresIn := goodIn_ca (goodIn_r _ [15, 16, 17, 18, 19, 8, 20, 21, 22, 10, 11, 23, 71, 72, 73, 74, 75, 76, 62, 63, 64, 65, 66, 67, 68, 69, 70] (by decide +kernel) (by decide +kernel)) (goodIn_sub (fun _ h => List.mem_cons_of_mem _ (List.mem_append_right _ h)) (by decide +kernel))
set_option maxRecDepth 20000 in
theorem gL_isPoured_X2_litresIn : GoodIn wsL_isPoured (wsV RL 16 RX2 yX2_litresIn wsX2_litresIn) := goodIn_app (goodIn_of _ (by decide +kernel)) ggL_isPoured_X2_litresIn
set_option maxRecDepth 20000 in
theorem ggL_isPoured_X2_pourAway : GoodIn wsL_isPoured wsX2_pourAway := goodIn_ca (goodIn_r _ [27, 16, 17, 18, 19, 8, 20, 21, 22, 10, 11, 23, 28, 29, 30, 31, 32, 33, 34, 35, 36, 71, 72, 73, 74, 75, 76, 62, 63, 64, 65, 66, 67, 68, 69, 70] (by decide +kernel) (by decide +kernel)) (goodIn_sub (fun _ h => List.mem_cons_of_mem _ (List.mem_append_right _ h)) (by decide +kernel))
set_option maxRecDepth 20000 in
theorem gL_isPoured_X2_pourAway : GoodIn wsL_isPoured (wsV RL 87 RX2 yX2_pourAway wsX2_pourAway) := goodIn_app (goodIn_of _ (by decide +kernel)) ggL_isPoured_X2_pourAway
set_option maxRecDepth 20000 in
theorem ggL_isPoured_X2_acidOf : GoodIn wsL_isPoured wsX2_acidOf := goodIn_ca (goodIn_r _ [40, 41, 17, 18, 19, 8, 20, 21, 22, 10, 11, 23, 71, 72, 73, 74, 75, 76, 62, 63, 64, 65, 66, 67, 68, 69, 70] (by decide +kernel) (by decide +kernel)) (goodIn_sub (fun _ h => List.mem_cons_of_mem _ (List.mem_append_right _ h)) (by decide +kernel))
set_option maxRecDepth 20000 in
theorem gL_isPoured_X2_acidOf : GoodIn wsL_isPoured (wsV RL 20 RX2 yX2_acidOf wsX2_acidOf) := goodIn_app (goodIn_of _ (by decide +kernel)) ggL_isPoured_X2_acidOf
set_option maxRecDepth 20000 in
theorem ggL_isPoured_X2_tasteOf : GoodIn wsL_isPoured wsX2_tasteOf := goodIn_ca (goodIn_r _ [45, 17, 18, 19, 8, 20, 21, 22, 10, 11, 23, 46, 47, 48, 31, 49, 35, 50, 51, 34, 52, 36, 53, 54, 55, 56, 57, 33, 62, 63, 64, 65, 66, 67, 68, 69, 70, 71, 72, 73, 74, 75, 76] (by decide +kernel) (by decide +kernel)) (goodIn_sub (fun _ h => List.mem_cons_of_mem _ (List.mem_append_right _ h)) (by decide +kernel))
set_option maxRecDepth 20000 in
theorem gL_isPoured_X2_tasteOf : GoodIn wsL_isPoured (wsV RL 39 RX2 yX2_tasteOf wsX2_tasteOf) := goodIn_app (goodIn_of _ (by decide +kernel)) ggL_isPoured_X2_tasteOf
set_option maxRecDepth 20000 in
theorem ggL_isPoured_L_isNear : GoodIn wsL_isPoured wsL_isNear := goodIn_r _ [60, 61] (by decide +kernel) (by decide +kernel)
set_option maxRecDepth 20000 in
theorem gL_isPoured_L_isNear : GoodIn wsL_isPoured (va_wsS RL 45 yL_isNear wsL_isNear) := goodIn_app (goodIn_of _ (by decide +kernel)) ggL_isPoured_L_isNear
theorem dL_isPoured_0 : decode cL_isPoured 0 = .ok (.aload_n 0, 1) := by decide +kernel
theorem dL_isPoured_1 : decode cL_isPoured 1 = .ok (.invokestatic 23, 3) := by decide +kernel
theorem dL_isPoured_4 : decode cL_isPoured 4 = .ok (.dstore_n 2, 1) := by decide +kernel
theorem dL_isPoured_5 : decode cL_isPoured 5 = .ok (.aload_n 0, 1) := by decide +kernel
theorem dL_isPoured_6 : decode cL_isPoured 6 = .ok (.iload_n 1, 1) := by decide +kernel
theorem dL_isPoured_7 : decode cL_isPoured 7 = .ok (.invokevirtual 16, 3) := by decide +kernel
theorem dL_isPoured_10 : decode cL_isPoured 10 = .ok (.dstore 4, 2) := by decide +kernel
theorem dL_isPoured_12 : decode cL_isPoured 12 = .ok (.aload_n 0, 1) := by decide +kernel
theorem dL_isPoured_13 : decode cL_isPoured 13 = .ok (.iload_n 1, 1) := by decide +kernel
theorem dL_isPoured_14 : decode cL_isPoured 14 = .ok (.invokevirtual 87, 3) := by decide +kernel
theorem dL_isPoured_17 : decode cL_isPoured 17 = .ok (.dload 4, 2) := by decide +kernel
theorem dL_isPoured_19 : decode cL_isPoured 19 = .ok (.dcmp .l, 1) := by decide +kernel
theorem dL_isPoured_20 : decode cL_isPoured 20 = .ok (.ifCond .ne 61, 3) := by decide +kernel
theorem dL_isPoured_23 : decode cL_isPoured 23 = .ok (.aload_n 0, 1) := by decide +kernel
theorem dL_isPoured_24 : decode cL_isPoured 24 = .ok (.iload_n 1, 1) := by decide +kernel
theorem dL_isPoured_25 : decode cL_isPoured 25 = .ok (.invokevirtual 16, 3) := by decide +kernel
theorem dL_isPoured_28 : decode cL_isPoured 28 = .ok (.dconst 0, 1) := by decide +kernel
theorem dL_isPoured_29 : decode cL_isPoured 29 = .ok (.dcmp .l, 1) := by decide +kernel
theorem dL_isPoured_30 : decode cL_isPoured 30 = .ok (.ifCond .ne 51, 3) := by decide +kernel
theorem dL_isPoured_33 : decode cL_isPoured 33 = .ok (.aload_n 0, 1) := by decide +kernel
theorem dL_isPoured_34 : decode cL_isPoured 34 = .ok (.iload_n 1, 1) := by decide +kernel
theorem dL_isPoured_35 : decode cL_isPoured 35 = .ok (.invokevirtual 20, 3) := by decide +kernel
theorem dL_isPoured_38 : decode cL_isPoured 38 = .ok (.dconst 0, 1) := by decide +kernel
theorem dL_isPoured_39 : decode cL_isPoured 39 = .ok (.dcmp .l, 1) := by decide +kernel
theorem dL_isPoured_40 : decode cL_isPoured 40 = .ok (.ifCond .ne 41, 3) := by decide +kernel
theorem dL_isPoured_43 : decode cL_isPoured 43 = .ok (.aload_n 0, 1) := by decide +kernel
theorem dL_isPoured_44 : decode cL_isPoured 44 = .ok (.iload_n 1, 1) := by decide +kernel
theorem dL_isPoured_45 : decode cL_isPoured 45 = .ok (.invokevirtual 39, 3) := by decide +kernel
theorem dL_isPoured_48 : decode cL_isPoured 48 = .ok (.dconst 0, 1) := by decide +kernel
theorem dL_isPoured_49 : decode cL_isPoured 49 = .ok (.dcmp .l, 1) := by decide +kernel
theorem dL_isPoured_50 : decode cL_isPoured 50 = .ok (.ifCond .ne 31, 3) := by decide +kernel
theorem dL_isPoured_53 : decode cL_isPoured 53 = .ok (.aload_n 0, 1) := by decide +kernel
theorem dL_isPoured_54 : decode cL_isPoured 54 = .ok (.invokestatic 23, 3) := by decide +kernel
theorem dL_isPoured_57 : decode cL_isPoured 57 = .ok (.dload 4, 2) := by decide +kernel
theorem dL_isPoured_59 : decode cL_isPoured 59 = .ok (.dadd, 1) := by decide +kernel
theorem dL_isPoured_60 : decode cL_isPoured 60 = .ok (.dload_n 2, 1) := by decide +kernel
theorem dL_isPoured_61 : decode cL_isPoured 61 = .ok (.invokestatic 45, 3) := by decide +kernel
theorem dL_isPoured_64 : decode cL_isPoured 64 = .ok (.ifCond .eq 17, 3) := by decide +kernel
theorem dL_isPoured_67 : decode cL_isPoured 67 = .ok (.aload_n 0, 1) := by decide +kernel
theorem dL_isPoured_68 : decode cL_isPoured 68 = .ok (.iload_n 1, 1) := by decide +kernel
theorem dL_isPoured_69 : decode cL_isPoured 69 = .ok (.invokevirtual 87, 3) := by decide +kernel
theorem dL_isPoured_72 : decode cL_isPoured 72 = .ok (.dconst 0, 1) := by decide +kernel
theorem dL_isPoured_73 : decode cL_isPoured 73 = .ok (.dcmp .l, 1) := by decide +kernel
theorem dL_isPoured_74 : decode cL_isPoured 74 = .ok (.ifCond .ne 7, 3) := by decide +kernel
theorem dL_isPoured_77 : decode cL_isPoured 77 = .ok (.iconst 1, 1) := by decide +kernel
theorem dL_isPoured_78 : decode cL_isPoured 78 = .ok (.goto 4, 3) := by decide +kernel
theorem dL_isPoured_81 : decode cL_isPoured 81 = .ok (.iconst 0, 1) := by decide +kernel
theorem dL_isPoured_82 : decode cL_isPoured 82 = .ok (.ireturn, 1) := by decide +kernel
set_option maxRecDepth 20000 in
theorem ggL_isAsked_L_litres : GoodIn wsL_isAsked wsL_litres := goodIn_ca (goodIn_r _ [6, 7, 8, 9, 10, 11, 12, 13, 14, 15, 16, 17, 18, 19, 20, 21, 22, 23, 24, 25, 162, 163, 164, 165, 166, 167, 168, 169, 170, 171, 172, 173, 174, 175, 176] (by decide +kernel) (by decide +kernel)) (goodIn_sub (fun _ h => List.mem_cons_of_mem _ (List.mem_append_right _ h)) (by decide +kernel))
set_option maxRecDepth 20000 in
theorem gL_isAsked_L_litres : GoodIn wsL_isAsked (va_wsS RL 23 yL_litres wsL_litres) := goodIn_app (goodIn_of _ (by decide +kernel)) ggL_isAsked_L_litres
set_option maxRecDepth 20000 in
theorem ggL_isAsked_X2_meanAge : GoodIn wsL_isAsked wsX2_meanAge := goodIn_r _ [29, 12, 30, 31, 32, 33, 34, 35, 36, 37, 38, 39, 40, 41, 42, 162, 163, 164, 165, 166, 167, 168, 169, 170, 171, 172, 173, 174, 175, 176] (by decide +kernel) (by decide +kernel)
set_option maxRecDepth 20000 in
theorem gL_isAsked_X2_meanAge : GoodIn wsL_isAsked (wsV RL 32 RX2 yX2_meanAge wsX2_meanAge) := goodIn_app (goodIn_of _ (by decide +kernel)) ggL_isAsked_X2_meanAge
set_option maxRecDepth 20000 in
theorem ggL_isAsked_X2_drawable : GoodIn wsL_isAsked wsX2_drawable := goodIn_r _ [46, 12, 47, 48, 49, 33, 50, 51, 36, 42, 52, 53, 54, 55, 37, 56, 57, 58, 59, 60, 35, 61, 62, 63, 64, 65, 66, 162, 163, 164, 165, 166, 167, 168, 169, 170, 171, 172, 173, 174, 175, 176] (by decide +kernel) (by decide +kernel)
set_option maxRecDepth 20000 in
theorem gL_isAsked_X2_drawable : GoodIn wsL_isAsked (wsV RL 70 RX2 yX2_drawable wsX2_drawable) := goodIn_app (goodIn_of _ (by decide +kernel)) ggL_isAsked_X2_drawable
set_option maxRecDepth 20000 in
theorem ggL_isAsked_X2_barrels : GoodIn wsL_isAsked wsX2_barrels := goodIn_r _ [11, 12, 13, 162, 163, 164, 165, 166, 167, 168, 169, 170] (by decide +kernel) (by decide +kernel)
set_option maxRecDepth 20000 in
theorem gL_isAsked_X2_barrels : GoodIn wsL_isAsked (wsV RL 10 RX2 yX2_barrels wsX2_barrels) := goodIn_app (goodIn_of _ (by decide +kernel)) ggL_isAsked_X2_barrels
set_option maxRecDepth 20000 in
theorem ggL_isAsked_X2_ageOf : GoodIn wsL_isAsked wsX2_ageOf := goodIn_ca (goodIn_r _ [70, 71, 19, 20, 21, 10, 22, 23, 24, 12, 13, 25, 171, 172, 173, 174, 175, 176, 162, 163, 164, 165, 166, 167, 168, 169, 170] (by decide +kernel) (by decide +kernel)) (goodIn_sub (fun _ h => List.mem_cons_of_mem _ (List.mem_append_right _ h)) (by decide +kernel))
set_option maxRecDepth 20000 in
theorem gL_isAsked_X2_ageOf : GoodIn wsL_isAsked (wsV RL 52 RX2 yX2_ageOf wsX2_ageOf) := goodIn_app (goodIn_of _ (by decide +kernel)) ggL_isAsked_X2_ageOf
set_option maxRecDepth 20000 in
theorem ggL_isAsked_X2_litresIn : GoodIn wsL_isAsked wsX2_litresIn := goodIn_ca (goodIn_r _ [17, 18, 19, 20, 21, 10, 22, 23, 24, 12, 13, 25, 171, 172, 173, 174, 175, 176, 162, 163, 164, 165, 166, 167, 168, 169, 170] (by decide +kernel) (by decide +kernel)) (goodIn_sub (fun _ h => List.mem_cons_of_mem _ (List.mem_append_right _ h)) (by decide +kernel))
set_option maxRecDepth 20000 in
theorem gL_isAsked_X2_litresIn : GoodIn wsL_isAsked (wsV RL 16 RX2 yX2_litresIn wsX2_litresIn) := goodIn_app (goodIn_of _ (by decide +kernel)) ggL_isAsked_X2_litresIn
set_option maxRecDepth 20000 in
theorem ggL_isAsked_X2_firstBottleIn : GoodIn wsL_isAsked wsX2_firstBottleIn := goodIn_r _ [75, 12, 76, 47, 48, 49, 33, 50, 51, 36, 42, 52, 53, 54, 55, 37, 56, 57, 58, 59, 60, 35, 61, 62, 63, 64, 65, 66, 77, 78, 79, 80, 81, 82, 83, 84, 85, 86, 87, 88, 89, 90, 91, 92, 93, 94, 95, 96, 97, 98, 99, 100, 101, 102, 103, 104, 105, 106, 107, 108, 109, 110, 111, 112, 113, 114, 115, 116, 117, 118, 119, 120, 121, 122, 123, 124, 125, 126, 127, 128, 129, 130, 131, 132, 133, 134, 135, 136, 137, 138, 139, 140, 141, 142, 143, 144, 145, 146, 147, 148, 149, 150, 151, 152, 153, 154, 155, 156, 162, 163, 164, 165, 166, 167, 168, 169, 170, 171, 172, 173, 174, 175, 176] (by decide +kernel) (by decide +kernel)
set_option maxRecDepth 20000 in
theorem gL_isAsked_X2_firstBottleIn : GoodIn wsL_isAsked (wsV RL 92 RX2 yX2_firstBottleIn wsX2_firstBottleIn) := goodIn_app (goodIn_of _ (by decide +kernel)) ggL_isAsked_X2_firstBottleIn
set_option maxRecDepth 20000 in
theorem ggL_isAsked_X2_oldest : GoodIn wsL_isAsked wsX2_oldest := goodIn_r _ [160, 12, 161, 58, 59, 33, 60, 35, 36, 42, 61, 62, 63, 64, 65, 66, 162, 163, 164, 165, 166, 167, 168, 169, 170, 171, 172, 173, 174, 175, 176] (by decide +kernel) (by decide +kernel)
set_option maxRecDepth 20000 in
theorem gL_isAsked_X2_oldest : GoodIn wsL_isAsked (wsV RL 49 RX2 yX2_oldest wsX2_oldest) := goodIn_app (goodIn_of _ (by decide +kernel)) ggL_isAsked_X2_oldest
theorem dL_isAsked_0 : decode cL_isAsked 0 = .ok (.aload_n 0, 1) := by decide +kernel
theorem dL_isAsked_1 : decode cL_isAsked 1 = .ok (.invokestatic 23, 3) := by decide +kernel
theorem dL_isAsked_4 : decode cL_isAsked 4 = .ok (.dstore_n 1, 1) := by decide +kernel
theorem dL_isAsked_5 : decode cL_isAsked 5 = .ok (.aload_n 0, 1) := by decide +kernel
theorem dL_isAsked_6 : decode cL_isAsked 6 = .ok (.invokevirtual 32, 3) := by decide +kernel
theorem dL_isAsked_9 : decode cL_isAsked 9 = .ok (.dstore_n 3, 1) := by decide +kernel
theorem dL_isAsked_10 : decode cL_isAsked 10 = .ok (.ldc2_w 90, 3) := by decide +kernel
theorem dL_isAsked_13 : decode cL_isAsked 13 = .ok (.dstore 5, 2) := by decide +kernel
theorem dL_isAsked_15 : decode cL_isAsked 15 = .ok (.dconst 0, 1) := by decide +kernel
theorem dL_isAsked_16 : decode cL_isAsked 16 = .ok (.dstore 7, 2) := by decide +kernel
theorem dL_isAsked_18 : decode cL_isAsked 18 = .ok (.aload_n 0, 1) := by decide +kernel
theorem dL_isAsked_19 : decode cL_isAsked 19 = .ok (.invokevirtual 70, 3) := by decide +kernel
theorem dL_isAsked_22 : decode cL_isAsked 22 = .ok (.istore 9, 2) := by decide +kernel
theorem dL_isAsked_24 : decode cL_isAsked 24 = .ok (.iconst 0, 1) := by decide +kernel
theorem dL_isAsked_25 : decode cL_isAsked 25 = .ok (.istore 10, 2) := by decide +kernel
theorem dL_isAsked_27 : decode cL_isAsked 27 = .ok (.iload 10, 2) := by decide +kernel
theorem dL_isAsked_29 : decode cL_isAsked 29 = .ok (.aload_n 0, 1) := by decide +kernel
theorem dL_isAsked_30 : decode cL_isAsked 30 = .ok (.invokevirtual 10, 3) := by decide +kernel
theorem dL_isAsked_33 : decode cL_isAsked 33 = .ok (.if_icmp .ge 79, 3) := by decide +kernel
theorem dL_isAsked_36 : decode cL_isAsked 36 = .ok (.aload_n 0, 1) := by decide +kernel
theorem dL_isAsked_37 : decode cL_isAsked 37 = .ok (.iload 10, 2) := by decide +kernel
theorem dL_isAsked_39 : decode cL_isAsked 39 = .ok (.invokevirtual 52, 3) := by decide +kernel
theorem dL_isAsked_42 : decode cL_isAsked 42 = .ok (.dstore 11, 2) := by decide +kernel
theorem dL_isAsked_44 : decode cL_isAsked 44 = .ok (.aload_n 0, 1) := by decide +kernel
theorem dL_isAsked_45 : decode cL_isAsked 45 = .ok (.iload 10, 2) := by decide +kernel
theorem dL_isAsked_47 : decode cL_isAsked 47 = .ok (.invokevirtual 16, 3) := by decide +kernel
theorem dL_isAsked_50 : decode cL_isAsked 50 = .ok (.dconst 0, 1) := by decide +kernel
theorem dL_isAsked_51 : decode cL_isAsked 51 = .ok (.dcmp .l, 1) := by decide +kernel
theorem dL_isAsked_52 : decode cL_isAsked 52 = .ok (.ifCond .le 7, 3) := by decide +kernel
theorem dL_isAsked_55 : decode cL_isAsked 55 = .ok (.iconst 1, 1) := by decide +kernel
theorem dL_isAsked_56 : decode cL_isAsked 56 = .ok (.goto 4, 3) := by decide +kernel
theorem dL_isAsked_59 : decode cL_isAsked 59 = .ok (.iconst 0, 1) := by decide +kernel
theorem dL_isAsked_60 : decode cL_isAsked 60 = .ok (.istore 13, 2) := by decide +kernel
theorem dL_isAsked_62 : decode cL_isAsked 62 = .ok (.iload 13, 2) := by decide +kernel
theorem dL_isAsked_64 : decode cL_isAsked 64 = .ok (.ifCond .eq 16, 3) := by decide +kernel
theorem dL_isAsked_67 : decode cL_isAsked 67 = .ok (.dload 11, 2) := by decide +kernel
theorem dL_isAsked_69 : decode cL_isAsked 69 = .ok (.dload 5, 2) := by decide +kernel
theorem dL_isAsked_71 : decode cL_isAsked 71 = .ok (.dcmp .g, 1) := by decide +kernel
theorem dL_isAsked_72 : decode cL_isAsked 72 = .ok (.ifCond .ge 8, 3) := by decide +kernel
theorem dL_isAsked_75 : decode cL_isAsked 75 = .ok (.dload 11, 2) := by decide +kernel
theorem dL_isAsked_77 : decode cL_isAsked 77 = .ok (.goto 5, 3) := by decide +kernel
theorem dL_isAsked_80 : decode cL_isAsked 80 = .ok (.dload 5, 2) := by decide +kernel
theorem dL_isAsked_82 : decode cL_isAsked 82 = .ok (.dstore 5, 2) := by decide +kernel
theorem dL_isAsked_84 : decode cL_isAsked 84 = .ok (.iload 13, 2) := by decide +kernel
theorem dL_isAsked_86 : decode cL_isAsked 86 = .ok (.ifCond .eq 16, 3) := by decide +kernel
theorem dL_isAsked_89 : decode cL_isAsked 89 = .ok (.dload 11, 2) := by decide +kernel
theorem dL_isAsked_91 : decode cL_isAsked 91 = .ok (.dload 7, 2) := by decide +kernel
theorem dL_isAsked_93 : decode cL_isAsked 93 = .ok (.dcmp .l, 1) := by decide +kernel
theorem dL_isAsked_94 : decode cL_isAsked 94 = .ok (.ifCond .le 8, 3) := by decide +kernel
theorem dL_isAsked_97 : decode cL_isAsked 97 = .ok (.dload 11, 2) := by decide +kernel
theorem dL_isAsked_99 : decode cL_isAsked 99 = .ok (.goto 5, 3) := by decide +kernel
theorem dL_isAsked_102 : decode cL_isAsked 102 = .ok (.dload 7, 2) := by decide +kernel
theorem dL_isAsked_104 : decode cL_isAsked 104 = .ok (.dstore 7, 2) := by decide +kernel
theorem dL_isAsked_106 : decode cL_isAsked 106 = .ok (.iinc 10 1, 3) := by decide +kernel
theorem dL_isAsked_109 : decode cL_isAsked 109 = .ok (.goto (-82), 3) := by decide +kernel
theorem dL_isAsked_112 : decode cL_isAsked 112 = .ok (.aload_n 0, 1) := by decide +kernel
theorem dL_isAsked_113 : decode cL_isAsked 113 = .ok (.invokevirtual 92, 3) := by decide +kernel
theorem dL_isAsked_116 : decode cL_isAsked 116 = .ok (.istore 10, 2) := by decide +kernel
theorem dL_isAsked_118 : decode cL_isAsked 118 = .ok (.aload_n 0, 1) := by decide +kernel
theorem dL_isAsked_119 : decode cL_isAsked 119 = .ok (.invokevirtual 49, 3) := by decide +kernel
theorem dL_isAsked_122 : decode cL_isAsked 122 = .ok (.istore 11, 2) := by decide +kernel
theorem dL_isAsked_124 : decode cL_isAsked 124 = .ok (.iload 10, 2) := by decide +kernel
theorem dL_isAsked_126 : decode cL_isAsked 126 = .ok (.iconst (-1), 1) := by decide +kernel
theorem dL_isAsked_127 : decode cL_isAsked 127 = .ok (.if_icmp .lt 119, 3) := by decide +kernel
theorem dL_isAsked_130 : decode cL_isAsked 130 = .ok (.iload 10, 2) := by decide +kernel
theorem dL_isAsked_132 : decode cL_isAsked 132 = .ok (.bipush 60, 2) := by decide +kernel
theorem dL_isAsked_134 : decode cL_isAsked 134 = .ok (.if_icmp .gt 112, 3) := by decide +kernel
theorem dL_isAsked_137 : decode cL_isAsked 137 = .ok (.iload 10, 2) := by decide +kernel
theorem dL_isAsked_139 : decode cL_isAsked 139 = .ok (.ifCond .ne 7, 3) := by decide +kernel
theorem dL_isAsked_142 : decode cL_isAsked 142 = .ok (.iconst 1, 1) := by decide +kernel
theorem dL_isAsked_143 : decode cL_isAsked 143 = .ok (.goto 4, 3) := by decide +kernel
theorem dL_isAsked_146 : decode cL_isAsked 146 = .ok (.iconst 0, 1) := by decide +kernel
theorem dL_isAsked_147 : decode cL_isAsked 147 = .ok (.iload 9, 2) := by decide +kernel
theorem dL_isAsked_149 : decode cL_isAsked 149 = .ok (.ifCond .le 7, 3) := by decide +kernel
theorem dL_isAsked_152 : decode cL_isAsked 152 = .ok (.iconst 1, 1) := by decide +kernel
theorem dL_isAsked_153 : decode cL_isAsked 153 = .ok (.goto 4, 3) := by decide +kernel
theorem dL_isAsked_156 : decode cL_isAsked 156 = .ok (.iconst 0, 1) := by decide +kernel
theorem dL_isAsked_157 : decode cL_isAsked 157 = .ok (.if_icmp .ne 89, 3) := by decide +kernel
theorem dL_isAsked_160 : decode cL_isAsked 160 = .ok (.aload_n 0, 1) := by decide +kernel
theorem dL_isAsked_161 : decode cL_isAsked 161 = .ok (.invokestatic 23, 3) := by decide +kernel
theorem dL_isAsked_164 : decode cL_isAsked 164 = .ok (.dload_n 1, 1) := by decide +kernel
theorem dL_isAsked_165 : decode cL_isAsked 165 = .ok (.dcmp .l, 1) := by decide +kernel
theorem dL_isAsked_166 : decode cL_isAsked 166 = .ok (.ifCond .ne 80, 3) := by decide +kernel
theorem dL_isAsked_169 : decode cL_isAsked 169 = .ok (.aload_n 0, 1) := by decide +kernel
theorem dL_isAsked_170 : decode cL_isAsked 170 = .ok (.invokevirtual 32, 3) := by decide +kernel
theorem dL_isAsked_173 : decode cL_isAsked 173 = .ok (.dload_n 3, 1) := by decide +kernel
theorem dL_isAsked_174 : decode cL_isAsked 174 = .ok (.dcmp .l, 1) := by decide +kernel
theorem dL_isAsked_175 : decode cL_isAsked 175 = .ok (.ifCond .ne 71, 3) := by decide +kernel
theorem dL_isAsked_178 : decode cL_isAsked 178 = .ok (.aload_n 0, 1) := by decide +kernel
theorem dL_isAsked_179 : decode cL_isAsked 179 = .ok (.invokevirtual 70, 3) := by decide +kernel
theorem dL_isAsked_182 : decode cL_isAsked 182 = .ok (.iload 9, 2) := by decide +kernel
theorem dL_isAsked_184 : decode cL_isAsked 184 = .ok (.if_icmp .ne 62, 3) := by decide +kernel
theorem dL_isAsked_187 : decode cL_isAsked 187 = .ok (.dload_n 1, 1) := by decide +kernel
theorem dL_isAsked_188 : decode cL_isAsked 188 = .ok (.dconst 0, 1) := by decide +kernel
theorem dL_isAsked_189 : decode cL_isAsked 189 = .ok (.dcmp .l, 1) := by decide +kernel
theorem dL_isAsked_190 : decode cL_isAsked 190 = .ok (.ifCond .ne 18, 3) := by decide +kernel
theorem dL_isAsked_193 : decode cL_isAsked 193 = .ok (.dload_n 3, 1) := by decide +kernel
theorem dL_isAsked_194 : decode cL_isAsked 194 = .ok (.dconst 0, 1) := by decide +kernel
theorem dL_isAsked_195 : decode cL_isAsked 195 = .ok (.dcmp .l, 1) := by decide +kernel
theorem dL_isAsked_196 : decode cL_isAsked 196 = .ok (.ifCond .ne 50, 3) := by decide +kernel
theorem dL_isAsked_199 : decode cL_isAsked 199 = .ok (.iload 11, 2) := by decide +kernel
theorem dL_isAsked_201 : decode cL_isAsked 201 = .ok (.iconst (-1), 1) := by decide +kernel
theorem dL_isAsked_202 : decode cL_isAsked 202 = .ok (.if_icmp .ne 44, 3) := by decide +kernel
theorem dL_isAsked_205 : decode cL_isAsked 205 = .ok (.goto 37, 3) := by decide +kernel
theorem dL_isAsked_208 : decode cL_isAsked 208 = .ok (.dload_n 3, 1) := by decide +kernel
theorem dL_isAsked_209 : decode cL_isAsked 209 = .ok (.dload 5, 2) := by decide +kernel
theorem dL_isAsked_211 : decode cL_isAsked 211 = .ok (.ldc2_w 8, 3) := by decide +kernel
theorem dL_isAsked_214 : decode cL_isAsked 214 = .ok (.dsub, 1) := by decide +kernel
theorem dL_isAsked_215 : decode cL_isAsked 215 = .ok (.dcmp .l, 1) := by decide +kernel
theorem dL_isAsked_216 : decode cL_isAsked 216 = .ok (.ifCond .le 30, 3) := by decide +kernel
theorem dL_isAsked_219 : decode cL_isAsked 219 = .ok (.dload_n 3, 1) := by decide +kernel
theorem dL_isAsked_220 : decode cL_isAsked 220 = .ok (.dload 7, 2) := by decide +kernel
theorem dL_isAsked_222 : decode cL_isAsked 222 = .ok (.ldc2_w 8, 3) := by decide +kernel
theorem dL_isAsked_225 : decode cL_isAsked 225 = .ok (.dadd, 1) := by decide +kernel
theorem dL_isAsked_226 : decode cL_isAsked 226 = .ok (.dcmp .g, 1) := by decide +kernel
theorem dL_isAsked_227 : decode cL_isAsked 227 = .ok (.ifCond .ge 19, 3) := by decide +kernel
theorem dL_isAsked_230 : decode cL_isAsked 230 = .ok (.aload_n 0, 1) := by decide +kernel
theorem dL_isAsked_231 : decode cL_isAsked 231 = .ok (.iload 11, 2) := by decide +kernel
theorem dL_isAsked_233 : decode cL_isAsked 233 = .ok (.invokevirtual 52, 3) := by decide +kernel
theorem dL_isAsked_236 : decode cL_isAsked 236 = .ok (.dload 7, 2) := by decide +kernel
theorem dL_isAsked_238 : decode cL_isAsked 238 = .ok (.dcmp .l, 1) := by decide +kernel
theorem dL_isAsked_239 : decode cL_isAsked 239 = .ok (.ifCond .ne 7, 3) := by decide +kernel
theorem dL_isAsked_242 : decode cL_isAsked 242 = .ok (.iconst 1, 1) := by decide +kernel
theorem dL_isAsked_243 : decode cL_isAsked 243 = .ok (.goto 4, 3) := by decide +kernel
theorem dL_isAsked_246 : decode cL_isAsked 246 = .ok (.iconst 0, 1) := by decide +kernel
theorem dL_isAsked_247 : decode cL_isAsked 247 = .ok (.ireturn, 1) := by decide +kernel
set_option maxRecDepth 20000 in
theorem ggL_law_X2_init : GoodIn wsL_law wsX2_init := goodIn_r _ [5, 6, 7, 8, 9, 10, 11, 12, 13, 14, 15, 16, 17, 18, 19, 20, 21, 22, 23, 24, 25, 26, 27, 28, 29, 30, 31, 320, 321, 322, 323, 324, 316, 317, 318, 319, 325, 326, 327, 328, 329, 330] (by decide +kernel) (by decide +kernel)
set_option maxRecDepth 20000 in
theorem gL_law_X2_init : GoodIn wsL_law (wsX2_init) := ggL_law_X2_init
set_option maxRecDepth 20000 in
theorem ggL_law_L_drawn : GoodIn wsL_law wsL_drawn := goodIn_r _ [35, 36] (by decide +kernel) (by decide +kernel)
set_option maxRecDepth 20000 in
theorem gL_law_L_drawn : GoodIn wsL_law (va_wsS RL 96 yL_drawn wsL_drawn) := goodIn_app (goodIn_of _ (by decide +kernel)) ggL_law_L_drawn
set_option maxRecDepth 20000 in
theorem ggL_law_X2_add : GoodIn wsL_law wsX2_add := goodIn_ca (goodIn_ca (goodIn_r _ [40, 41, 42, 43, 44, 12, 45, 46, 47, 11, 48, 25, 22, 49, 50, 51, 52, 53, 54, 55, 56, 57, 58, 59, 60, 61, 62, 24, 63, 64, 65, 66, 67, 316, 317, 318, 319, 320, 321, 322, 323, 324, 325, 326, 327, 328, 329, 330] (by decide +kernel) (by decide +kernel)) (goodIn_sub (fun _ h => List.mem_append_left _ (List.mem_append_left _ (List.mem_append_right _ h))) (by decide +kernel))) (goodIn_sub (fun _ h => List.mem_append_left _ (List.mem_append_right _ h)) (by decide +kernel))
set_option maxRecDepth 20000 in
theorem gL_law_X2_add : GoodIn wsL_law (wsV RL 100 RX2 yX2_add wsX2_add) := goodIn_app (goodIn_of _ (by decide +kernel)) ggL_law_X2_add
set_option maxRecDepth 20000 in
theorem ggL_law_L_isFilled : GoodIn wsL_law wsL_isFilled := goodIn_ca (goodIn_ca (goodIn_r _ [70, 71, 72, 73, 34, 74, 75, 76, 77, 2, 78, 12, 79, 80, 81, 82, 83, 84, 85, 86, 87, 88, 89, 90, 91, 92, 93, 94, 95, 41, 42, 96, 97, 98, 11, 99, 25, 22, 49, 100, 101, 102, 103, 104, 24, 105, 64, 65, 66, 67, 106, 107, 108, 109, 110, 111, 112, 113, 114, 115, 116, 117, 118, 119, 27, 120, 121, 122, 123, 28, 124, 125, 126, 127, 128, 129, 130, 131, 132, 316, 317, 318, 319, 320, 321, 322, 323, 324, 325, 326, 327, 328, 329, 330] (by decide +kernel) (by decide +kernel)) (goodIn_sub (fun _ h => List.mem_append_right _ h) (by decide +kernel))) (goodIn_sub (fun _ h => List.mem_append_left _ (List.mem_append_left _ (List.mem_append_right _ h))) (by decide +kernel))
set_option maxRecDepth 20000 in
theorem gL_law_L_isFilled : GoodIn wsL_law (va_wsS RL 104 yL_isFilled wsL_isFilled) := goodIn_app (goodIn_of _ (by decide +kernel)) ggL_law_L_isFilled
set_option maxRecDepth 20000 in
theorem ggL_law_L_isMoved : GoodIn wsL_law wsL_isMoved := goodIn_ca (goodIn_r _ [135, 71, 72, 73, 34, 74, 75, 76, 77, 2, 78, 12, 79, 80, 81, 82, 83, 84, 85, 86, 87, 88, 89, 90, 91, 136, 137, 138, 139, 140, 141, 142, 143, 144, 145, 146, 147, 148, 149, 150, 11, 151, 25, 22, 100, 152, 153, 154, 155, 120, 156, 157, 158, 159, 160, 161, 162, 163, 122, 164, 165, 166, 167, 168, 169, 170, 24, 171, 66, 172, 173, 65, 174, 67, 175, 176, 130, 131, 132, 64, 177, 178, 179, 180, 181, 182, 183, 184, 185, 186, 187, 188, 49, 189, 190, 102, 103, 104, 105, 106, 107, 108, 191, 192, 193, 194, 195, 61, 62, 63, 109, 110, 111, 316, 317, 318, 319, 320, 321, 322, 323, 324, 325, 326, 327, 328, 329, 330] (by decide +kernel) (by decide +kernel)) (goodIn_sub (fun _ h => List.mem_append_right _ h) (by decide +kernel))
set_option maxRecDepth 20000 in
theorem gL_law_L_isMoved : GoodIn wsL_law (va_wsS RL 108 yL_isMoved wsL_isMoved) := goodIn_app (goodIn_of _ (by decide +kernel)) ggL_law_L_isMoved
set_option maxRecDepth 20000 in
theorem ggL_law_L_isAged : GoodIn wsL_law wsL_isAged := goodIn_ca (goodIn_r _ [198, 199, 200, 201, 202, 71, 203, 72, 73, 34, 74, 75, 76, 77, 2, 78, 12, 79, 80, 81, 82, 83, 84, 85, 86, 87, 88, 89, 90, 91, 204, 205, 206, 207, 208, 126, 127, 11, 128, 25, 22, 120, 129, 130, 131, 24, 132, 64, 209, 210, 211, 212, 213, 214, 215, 216, 217, 16, 218, 219, 220, 221, 222, 223, 224, 225, 27, 226, 100, 28, 227, 228, 229, 230, 231, 26, 232, 233, 234, 235, 236, 237, 67, 238, 65, 239, 240, 241, 242, 243, 244, 245, 246, 192, 193, 194, 195, 61, 62, 63, 66, 176, 247, 248, 249, 250, 251, 252, 253, 174, 254, 255, 125, 109, 110, 111, 256, 257, 258, 259, 260, 139, 140, 141, 142, 143, 144, 145, 146, 147, 148, 149, 150, 151, 152, 153, 154, 155, 112, 113, 114, 115, 116, 117, 118, 119, 121, 122, 123, 124, 316, 317, 318, 319, 320, 321, 322, 323, 324, 325, 326, 327, 328, 329, 330] (by decide +kernel) (by decide +kernel)) (goodIn_sub (fun _ h => List.mem_append_right _ h) (by decide +kernel))
set_option maxRecDepth 20000 in
theorem gL_law_L_isAged : GoodIn wsL_law (va_wsS RL 112 yL_isAged wsL_isAged) := goodIn_app (goodIn_of _ (by decide +kernel)) ggL_law_L_isAged
set_option maxRecDepth 20000 in
theorem ggL_law_L_isBottled : GoodIn wsL_law wsL_isBottled := goodIn_ca (goodIn_ca (goodIn_r _ [263, 264, 112, 113, 114, 2, 115, 12, 116, 117, 118, 11, 119, 27, 22, 120, 121, 122, 123, 28, 100, 124, 125, 126, 127, 128, 25, 129, 130, 131, 24, 132, 64, 265, 266, 267, 268, 41, 42, 15, 72, 73, 34, 74, 75, 76, 77, 78, 79, 80, 81, 82, 83, 84, 85, 86, 87, 88, 89, 90, 91, 269, 270, 271, 272, 273, 274, 275, 276, 277, 278, 279, 280, 281, 282, 283, 284, 285, 191, 192, 193, 194, 195, 61, 62, 63, 65, 66, 67, 109, 110, 111, 71, 316, 317, 318, 319, 320, 321, 322, 323, 324, 325, 326, 327, 328, 329, 330] (by decide +kernel) (by decide +kernel)) (goodIn_sub (fun _ h => List.mem_append_left _ (List.mem_append_left _ (List.mem_append_right _ h))) (by decide +kernel))) (goodIn_sub (fun _ h => List.mem_append_right _ h) (by decide +kernel))
set_option maxRecDepth 20000 in
theorem gL_law_L_isBottled : GoodIn wsL_law (va_wsS RL 115 yL_isBottled wsL_isBottled) := goodIn_app (goodIn_of _ (by decide +kernel)) ggL_law_L_isBottled
set_option maxRecDepth 20000 in
theorem ggL_law_X2_setWarmth : GoodIn wsL_law wsX2_setWarmth := goodIn_ca (goodIn_r _ [289, 41, 42, 12, 290, 316, 317, 318, 319, 320, 321, 322, 323, 324] (by decide +kernel) (by decide +kernel)) (goodIn_sub (fun _ h => List.mem_append_left _ (List.mem_append_left _ (List.mem_append_right _ h))) (by decide +kernel))
set_option maxRecDepth 20000 in
theorem gL_law_X2_setWarmth : GoodIn wsL_law (wsV RL 119 RX2 yX2_setWarmth wsX2_setWarmth) := goodIn_app (goodIn_of _ (by decide +kernel)) ggL_law_X2_setWarmth
set_option maxRecDepth 20000 in
theorem ggL_law_L_isPoured : GoodIn wsL_law wsL_isPoured := goodIn_ca (goodIn_r _ [293, 72, 73, 34, 74, 75, 76, 77, 2, 78, 12, 79, 80, 81, 82, 83, 84, 85, 86, 87, 88, 89, 90, 91, 294, 295, 296, 297, 298, 61, 62, 24, 63, 64, 65, 66, 67, 139, 140, 141, 142, 143, 164, 165, 166, 167, 168, 169, 170, 171, 172, 173, 174, 175, 176, 130, 131, 132, 109, 110, 111, 71, 316, 317, 318, 319, 320, 321, 322, 323, 324, 325, 326, 327, 328, 329, 330] (by decide +kernel) (by decide +kernel)) (goodIn_sub (fun _ h => List.mem_append_right _ h) (by decide +kernel))
set_option maxRecDepth 20000 in
theorem gL_law_L_isPoured : GoodIn wsL_law (va_wsS RL 123 yL_isPoured wsL_isPoured) := goodIn_app (goodIn_of _ (by decide +kernel)) ggL_law_L_isPoured
set_option maxRecDepth 20000 in
theorem ggL_law_L_isAsked : GoodIn wsL_law wsL_isAsked := goodIn_ca (goodIn_r _ [301, 302, 71, 72, 73, 34, 74, 75, 76, 77, 2, 78, 12, 79, 80, 81, 82, 83, 84, 85, 86, 87, 88, 89, 90, 91, 144, 145, 146, 147, 148, 149, 150, 11, 151, 25, 22, 100, 152, 153, 154, 155, 120, 112, 113, 114, 115, 116, 117, 118, 119, 27, 121, 122, 123, 28, 124, 125, 126, 127, 128, 129, 130, 131, 24, 132, 64, 209, 210, 211, 212, 213, 303, 304, 305, 306, 13, 307, 308, 309, 310, 26, 311, 312, 313, 314, 237, 315, 65, 66, 67, 96, 97, 98, 99, 49, 101, 102, 103, 104, 105, 106, 107, 108, 181, 182, 183, 184, 185, 186, 187, 188, 189, 190, 191, 192, 193, 194, 195, 61, 62, 63, 222, 223, 224, 225, 226, 227, 228, 229, 230, 231, 232, 233, 234, 235, 236, 238, 239, 240, 241, 242, 243, 244, 245, 246, 176, 247, 248, 249, 250, 251, 252, 253, 174, 254, 255, 204, 205, 206, 207, 208, 316, 317, 318, 319, 320, 321, 322, 323, 324, 325, 326, 327, 328, 329, 330] (by decide +kernel) (by decide +kernel)) (goodIn_sub (fun _ h => List.mem_append_right _ h) (by decide +kernel))
set_option maxRecDepth 20000 in
theorem gL_law_L_isAsked : GoodIn wsL_law (va_wsS RL 126 yL_isAsked wsL_isAsked) := goodIn_app (goodIn_of _ (by decide +kernel)) ggL_law_L_isAsked
theorem dL_law_0 : decode cL_law 0 = .ok (.new 11, 3) := by decide +kernel
theorem dL_law_3 : decode cL_law 3 = .ok (.dup, 1) := by decide +kernel
theorem dL_law_4 : decode cL_law 4 = .ok (.invokespecial 95, 3) := by decide +kernel
theorem dL_law_7 : decode cL_law 7 = .ok (.astore_n 1, 1) := by decide +kernel
theorem dL_law_8 : decode cL_law 8 = .ok (.iconst 2, 1) := by decide +kernel
theorem dL_law_9 : decode cL_law 9 = .ok (.aload_n 0, 1) := by decide +kernel
theorem dL_law_10 : decode cL_law 10 = .ok (.iconst 0, 1) := by decide +kernel
theorem dL_law_11 : decode cL_law 11 = .ok (.bipush 7, 2) := by decide +kernel
theorem dL_law_13 : decode cL_law 13 = .ok (.invokestatic 96, 3) := by decide +kernel
theorem dL_law_16 : decode cL_law 16 = .ok (.iadd, 1) := by decide +kernel
theorem dL_law_17 : decode cL_law 17 = .ok (.istore_n 2, 1) := by decide +kernel
theorem dL_law_18 : decode cL_law 18 = .ok (.bipush 60, 2) := by decide +kernel
theorem dL_law_20 : decode cL_law 20 = .ok (.aload_n 0, 1) := by decide +kernel
theorem dL_law_21 : decode cL_law 21 = .ok (.iconst 1, 1) := by decide +kernel
theorem dL_law_22 : decode cL_law 22 = .ok (.bipush 41, 2) := by decide +kernel
theorem dL_law_24 : decode cL_law 24 = .ok (.invokestatic 96, 3) := by decide +kernel
theorem dL_law_27 : decode cL_law 27 = .ok (.iadd, 1) := by decide +kernel
theorem dL_law_28 : decode cL_law 28 = .ok (.istore_n 3, 1) := by decide +kernel
theorem dL_law_29 : decode cL_law 29 = .ok (.iload_n 3, 1) := by decide +kernel
theorem dL_law_30 : decode cL_law 30 = .ok (.istore 4, 2) := by decide +kernel
theorem dL_law_32 : decode cL_law 32 = .ok (.iconst 1, 1) := by decide +kernel
theorem dL_law_33 : decode cL_law 33 = .ok (.istore 5, 2) := by decide +kernel
theorem dL_law_35 : decode cL_law 35 = .ok (.iconst 0, 1) := by decide +kernel
theorem dL_law_36 : decode cL_law 36 = .ok (.istore 6, 2) := by decide +kernel
theorem dL_law_38 : decode cL_law 38 = .ok (.iload 6, 2) := by decide +kernel
theorem dL_law_40 : decode cL_law 40 = .ok (.iload_n 2, 1) := by decide +kernel
theorem dL_law_41 : decode cL_law 41 = .ok (.if_icmp .ge 59, 3) := by decide +kernel
theorem dL_law_44 : decode cL_law 44 = .ok (.iload 5, 2) := by decide +kernel
theorem dL_law_46 : decode cL_law 46 = .ok (.ifCond .eq 27, 3) := by decide +kernel
theorem dL_law_49 : decode cL_law 49 = .ok (.aload_n 1, 1) := by decide +kernel
theorem dL_law_50 : decode cL_law 50 = .ok (.aload_n 0, 1) := by decide +kernel
theorem dL_law_51 : decode cL_law 51 = .ok (.iconst 2, 1) := by decide +kernel
theorem dL_law_52 : decode cL_law 52 = .ok (.iload 6, 2) := by decide +kernel
theorem dL_law_54 : decode cL_law 54 = .ok (.iadd, 1) := by decide +kernel
theorem dL_law_55 : decode cL_law 55 = .ok (.iconst 4, 1) := by decide +kernel
theorem dL_law_56 : decode cL_law 56 = .ok (.invokestatic 96, 3) := by decide +kernel
theorem dL_law_59 : decode cL_law 59 = .ok (.iload 4, 2) := by decide +kernel
theorem dL_law_61 : decode cL_law 61 = .ok (.invokevirtual 100, 3) := by decide +kernel
theorem dL_law_64 : decode cL_law 64 = .ok (.iload 6, 2) := by decide +kernel
theorem dL_law_66 : decode cL_law 66 = .ok (.if_icmp .ne 7, 3) := by decide +kernel
theorem dL_law_69 : decode cL_law 69 = .ok (.iconst 1, 1) := by decide +kernel
theorem dL_law_70 : decode cL_law 70 = .ok (.goto 4, 3) := by decide +kernel
theorem dL_law_73 : decode cL_law 73 = .ok (.iconst 0, 1) := by decide +kernel
theorem dL_law_74 : decode cL_law 74 = .ok (.istore 5, 2) := by decide +kernel
theorem dL_law_76 : decode cL_law 76 = .ok (.iload 4, 2) := by decide +kernel
theorem dL_law_78 : decode cL_law 78 = .ok (.iconst 1, 1) := by decide +kernel
theorem dL_law_79 : decode cL_law 79 = .ok (.aload_n 0, 1) := by decide +kernel
theorem dL_law_80 : decode cL_law 80 = .ok (.bipush 10, 2) := by decide +kernel
theorem dL_law_82 : decode cL_law 82 = .ok (.iload 6, 2) := by decide +kernel
theorem dL_law_84 : decode cL_law 84 = .ok (.iadd, 1) := by decide +kernel
theorem dL_law_85 : decode cL_law 85 = .ok (.bipush 6, 2) := by decide +kernel
theorem dL_law_87 : decode cL_law 87 = .ok (.invokestatic 96, 3) := by decide +kernel
theorem dL_law_90 : decode cL_law 90 = .ok (.iadd, 1) := by decide +kernel
theorem dL_law_91 : decode cL_law 91 = .ok (.isub, 1) := by decide +kernel
theorem dL_law_92 : decode cL_law 92 = .ok (.istore 4, 2) := by decide +kernel
theorem dL_law_94 : decode cL_law 94 = .ok (.iinc 6 1, 3) := by decide +kernel
theorem dL_law_97 : decode cL_law 97 = .ok (.goto (-59), 3) := by decide +kernel
theorem dL_law_100 : decode cL_law 100 = .ok (.iconst 0, 1) := by decide +kernel
theorem dL_law_101 : decode cL_law 101 = .ok (.istore 6, 2) := by decide +kernel
theorem dL_law_103 : decode cL_law 103 = .ok (.iload 6, 2) := by decide +kernel
theorem dL_law_105 : decode cL_law 105 = .ok (.sipush 140, 3) := by decide +kernel
theorem dL_law_108 : decode cL_law 108 = .ok (.if_icmp .ge 179, 3) := by decide +kernel
theorem dL_law_111 : decode cL_law 111 = .ok (.iload 5, 2) := by decide +kernel
theorem dL_law_113 : decode cL_law 113 = .ok (.ifCond .eq 174, 3) := by decide +kernel
theorem dL_law_116 : decode cL_law 116 = .ok (.aload_n 0, 1) := by decide +kernel
theorem dL_law_117 : decode cL_law 117 = .ok (.iload 6, 2) := by decide +kernel
theorem dL_law_119 : decode cL_law 119 = .ok (.bipush 20, 2) := by decide +kernel
theorem dL_law_121 : decode cL_law 121 = .ok (.iadd, 1) := by decide +kernel
theorem dL_law_122 : decode cL_law 122 = .ok (.sipush 30000, 3) := by decide +kernel
theorem dL_law_125 : decode cL_law 125 = .ok (.invokestatic 96, 3) := by decide +kernel
theorem dL_law_128 : decode cL_law 128 = .ok (.istore 7, 2) := by decide +kernel
theorem dL_law_130 : decode cL_law 130 = .ok (.iload 7, 2) := by decide +kernel
theorem dL_law_132 : decode cL_law 132 = .ok (.bipush 16, 2) := by decide +kernel
theorem dL_law_134 : decode cL_law 134 = .ok (.irem, 1) := by decide +kernel
theorem dL_law_135 : decode cL_law 135 = .ok (.istore 8, 2) := by decide +kernel
theorem dL_law_137 : decode cL_law 137 = .ok (.iload 8, 2) := by decide +kernel
theorem dL_law_139 : decode cL_law 139 = .ok (.iconst 4, 1) := by decide +kernel
theorem dL_law_140 : decode cL_law 140 = .ok (.if_icmp .ge 23, 3) := by decide +kernel
theorem dL_law_143 : decode cL_law 143 = .ok (.aload_n 1, 1) := by decide +kernel
theorem dL_law_144 : decode cL_law 144 = .ok (.iconst 1, 1) := by decide +kernel
theorem dL_law_145 : decode cL_law 145 = .ok (.iload 7, 2) := by decide +kernel
theorem dL_law_147 : decode cL_law 147 = .ok (.bipush 16, 2) := by decide +kernel
theorem dL_law_149 : decode cL_law 149 = .ok (.idiv, 1) := by decide +kernel
theorem dL_law_150 : decode cL_law 150 = .ok (.bipush 100, 2) := by decide +kernel
theorem dL_law_152 : decode cL_law 152 = .ok (.irem, 1) := by decide +kernel
theorem dL_law_153 : decode cL_law 153 = .ok (.iadd, 1) := by decide +kernel
theorem dL_law_154 : decode cL_law 154 = .ok (.iload_n 3, 1) := by decide +kernel
theorem dL_law_155 : decode cL_law 155 = .ok (.invokestatic 104, 3) := by decide +kernel
theorem dL_law_158 : decode cL_law 158 = .ok (.istore 5, 2) := by decide +kernel
theorem dL_law_160 : decode cL_law 160 = .ok (.goto 121, 3) := by decide +kernel
theorem dL_law_163 : decode cL_law 163 = .ok (.iload 8, 2) := by decide +kernel
theorem dL_law_165 : decode cL_law 165 = .ok (.bipush 7, 2) := by decide +kernel
theorem dL_law_167 : decode cL_law 167 = .ok (.if_icmp .ge 12, 3) := by decide +kernel
theorem dL_law_170 : decode cL_law 170 = .ok (.aload_n 1, 1) := by decide +kernel
theorem dL_law_171 : decode cL_law 171 = .ok (.invokestatic 108, 3) := by decide +kernel
theorem dL_law_174 : decode cL_law 174 = .ok (.istore 5, 2) := by decide +kernel
theorem dL_law_176 : decode cL_law 176 = .ok (.goto 105, 3) := by decide +kernel
theorem dL_law_179 : decode cL_law 179 = .ok (.iload 8, 2) := by decide +kernel
theorem dL_law_181 : decode cL_law 181 = .ok (.bipush 13, 2) := by decide +kernel
theorem dL_law_183 : decode cL_law 183 = .ok (.if_icmp .ge 12, 3) := by decide +kernel
theorem dL_law_186 : decode cL_law 186 = .ok (.aload_n 1, 1) := by decide +kernel
theorem dL_law_187 : decode cL_law 187 = .ok (.invokestatic 112, 3) := by decide +kernel
theorem dL_law_190 : decode cL_law 190 = .ok (.istore 5, 2) := by decide +kernel
theorem dL_law_192 : decode cL_law 192 = .ok (.goto 89, 3) := by decide +kernel
theorem dL_law_195 : decode cL_law 195 = .ok (.iload 8, 2) := by decide +kernel
theorem dL_law_197 : decode cL_law 197 = .ok (.bipush 13, 2) := by decide +kernel
theorem dL_law_199 : decode cL_law 199 = .ok (.if_icmp .ne 22, 3) := by decide +kernel
theorem dL_law_202 : decode cL_law 202 = .ok (.aload_n 1, 1) := by decide +kernel
theorem dL_law_203 : decode cL_law 203 = .ok (.iconst 1, 1) := by decide +kernel
theorem dL_law_204 : decode cL_law 204 = .ok (.iload 7, 2) := by decide +kernel
theorem dL_law_206 : decode cL_law 206 = .ok (.bipush 16, 2) := by decide +kernel
theorem dL_law_208 : decode cL_law 208 = .ok (.idiv, 1) := by decide +kernel
theorem dL_law_209 : decode cL_law 209 = .ok (.bipush 60, 2) := by decide +kernel
theorem dL_law_211 : decode cL_law 211 = .ok (.irem, 1) := by decide +kernel
theorem dL_law_212 : decode cL_law 212 = .ok (.iadd, 1) := by decide +kernel
theorem dL_law_213 : decode cL_law 213 = .ok (.invokestatic 115, 3) := by decide +kernel
theorem dL_law_216 : decode cL_law 216 = .ok (.istore 5, 2) := by decide +kernel
theorem dL_law_218 : decode cL_law 218 = .ok (.goto 63, 3) := by decide +kernel
theorem dL_law_221 : decode cL_law 221 = .ok (.iload 8, 2) := by decide +kernel
theorem dL_law_223 : decode cL_law 223 = .ok (.bipush 14, 2) := by decide +kernel
theorem dL_law_225 : decode cL_law 225 = .ok (.if_icmp .ne 50, 3) := by decide +kernel
theorem dL_law_228 : decode cL_law 228 = .ok (.aload_n 1, 1) := by decide +kernel
theorem dL_law_229 : decode cL_law 229 = .ok (.iload 7, 2) := by decide +kernel
theorem dL_law_231 : decode cL_law 231 = .ok (.bipush 16, 2) := by decide +kernel
theorem dL_law_233 : decode cL_law 233 = .ok (.idiv, 1) := by decide +kernel
theorem dL_law_234 : decode cL_law 234 = .ok (.bipush 41, 2) := by decide +kernel
theorem dL_law_236 : decode cL_law 236 = .ok (.irem, 1) := by decide +kernel
theorem dL_law_237 : decode cL_law 237 = .ok (.invokevirtual 119, 3) := by decide +kernel
theorem dL_law_240 : decode cL_law 240 = .ok (.iload 7, 2) := by decide +kernel
theorem dL_law_242 : decode cL_law 242 = .ok (.bipush 16, 2) := by decide +kernel
theorem dL_law_244 : decode cL_law 244 = .ok (.idiv, 1) := by decide +kernel
theorem dL_law_245 : decode cL_law 245 = .ok (.bipush 7, 2) := by decide +kernel
theorem dL_law_247 : decode cL_law 247 = .ok (.irem, 1) := by decide +kernel
theorem dL_law_248 : decode cL_law 248 = .ok (.ifCond .gt 17, 3) := by decide +kernel
theorem dL_law_251 : decode cL_law 251 = .ok (.aload_n 1, 1) := by decide +kernel
theorem dL_law_252 : decode cL_law 252 = .ok (.iload 7, 2) := by decide +kernel
theorem dL_law_254 : decode cL_law 254 = .ok (.bipush 112, 2) := by decide +kernel
theorem dL_law_256 : decode cL_law 256 = .ok (.idiv, 1) := by decide +kernel
theorem dL_law_257 : decode cL_law 257 = .ok (.iload_n 2, 1) := by decide +kernel
theorem dL_law_258 : decode cL_law 258 = .ok (.irem, 1) := by decide +kernel
theorem dL_law_259 : decode cL_law 259 = .ok (.invokestatic 123, 3) := by decide +kernel
theorem dL_law_262 : decode cL_law 262 = .ok (.ifCond .eq 7, 3) := by decide +kernel
theorem dL_law_265 : decode cL_law 265 = .ok (.iconst 1, 1) := by decide +kernel
theorem dL_law_266 : decode cL_law 266 = .ok (.goto 4, 3) := by decide +kernel
theorem dL_law_269 : decode cL_law 269 = .ok (.iconst 0, 1) := by decide +kernel
theorem dL_law_270 : decode cL_law 270 = .ok (.istore 5, 2) := by decide +kernel
theorem dL_law_272 : decode cL_law 272 = .ok (.goto 9, 3) := by decide +kernel
theorem dL_law_275 : decode cL_law 275 = .ok (.aload_n 1, 1) := by decide +kernel
theorem dL_law_276 : decode cL_law 276 = .ok (.invokestatic 126, 3) := by decide +kernel
theorem dL_law_279 : decode cL_law 279 = .ok (.istore 5, 2) := by decide +kernel
theorem dL_law_281 : decode cL_law 281 = .ok (.iinc 6 1, 3) := by decide +kernel
theorem dL_law_284 : decode cL_law 284 = .ok (.goto (-181), 3) := by decide +kernel
theorem dL_law_287 : decode cL_law 287 = .ok (.iload 5, 2) := by decide +kernel
theorem dL_law_289 : decode cL_law 289 = .ok (.ifCond .eq 14, 3) := by decide +kernel
theorem dL_law_292 : decode cL_law 292 = .ok (.aload_n 1, 1) := by decide +kernel
theorem dL_law_293 : decode cL_law 293 = .ok (.invokestatic 126, 3) := by decide +kernel
theorem dL_law_296 : decode cL_law 296 = .ok (.ifCond .eq 7, 3) := by decide +kernel
theorem dL_law_299 : decode cL_law 299 = .ok (.iconst 1, 1) := by decide +kernel
theorem dL_law_300 : decode cL_law 300 = .ok (.goto 4, 3) := by decide +kernel
theorem dL_law_303 : decode cL_law 303 = .ok (.iconst 0, 1) := by decide +kernel
theorem dL_law_304 : decode cL_law 304 = .ok (.ireturn, 1) := by decide +kernel
abbrev vwCl : List vw_C := [(RX0, TX0, 6), (RX1, TX1, 5), (RX2, TX2, 4)]
end
section
/-! FLOATS: nonnegative doubles, their units, bounds of results (no NaN in this system) -/
def zv (x : UInt64) : Int := FP.Core.zval FP.Core.b64 (FP.Core.val64 x)
/-- not negative by its sign bit, no NaN, perhaps infinite -/
def NN (x : UInt64) : Prop := x.toNat ≤ 9218868437227405312
/-- .. and finite -/
def NF (x : UInt64) : Prop := x.toNat < 9218868437227405312
/-- in units of the least double -/
def ud (x : UInt64) : Nat := FP.Core.unitsOf FP.Core.b64 x.toNat
theorem NF.nn {x : UInt64} (h : NF x) : NN x := Nat.le_of_lt h
theorem NN.lt63 {x : UInt64} (h : NN x) : x.toNat < 2 ^ 63 := by unfold NN at h; omega
theorem NN.ne {x : UInt64} (h : NN x) : FP.Core.val64 x ≠ .nan := (FP.Core.ne_nan x).mpr (by have h2 := h.lt63; unfold NN at h; omega)
theorem NF.fin {x : UInt64} (h : NF x) : FP.Core.DFin x := (FP.Core.fin_bits x).mpr (by unfold NF at h; omega)
theorem n64_of {r : UInt64} (h : FP.Core.val64 r ≠ .nan) : vf_n64 r := by
  unfold vf_n64
  rw [UInt64.le_iff_toNat_le, FP.Core.mask_toNat]
  have h1 := (FP.Core.ne_nan r).mp h
  have h2 : (0x7ff0000000000000 : UInt64).toNat = 9218868437227405312 := by decide +kernel
  omega
theorem NN.n64 {r : UInt64} (h : NN r) : vf_n64 r := n64_of h.ne
theorem NN.sgn {x : UInt64} (h : NN x) : FP.Core.sgn (FP.Core.val64 x) = false := by
  rw [FP.Core.sgn_bits h.ne]
  exact decide_eq_false (by have := h.lt63; omega)
theorem NN.uz {x : UInt64} (h : NN x) : zv x = (ud x : Int) := by
  unfold zv FP.Core.zval ud
  rw [h.sgn, FP.Core.zmag_bits h.ne, Nat.mod_eq_of_lt h.lt63]
  rfl
theorem nn_of {x : UInt64} (h : FP.Core.val64 x ≠ .nan) (hs : FP.Core.sgn (FP.Core.val64 x) = false) : NN x := by
  have h1 := (FP.Core.ne_nan x).mp h
  rw [FP.Core.sgn_bits h] at hs
  have h2 : ¬ 2 ^ 63 ≤ x.toNat := of_decide_eq_false hs
  unfold NN
  omega
theorem nf_of {x : UInt64} (h : FP.Core.DFin x) (hs : FP.Core.sgn (FP.Core.val64 x) = false) : NF x := by
  have h1 := nn_of h.ne_nan hs
  have h2 := (FP.Core.fin_bits x).mp h
  have h3 := h1.lt63
  unfold NF
  omega
theorem ud_lt {x y : UInt64} : ud x < ud y ↔ x.toNat < y.toNat := FP.Core.unitsOf_lt_iff
theorem ud_le {x y : UInt64} : ud x ≤ ud y ↔ x.toNat ≤ y.toNat := FP.Core.unitsOf_le_iff
theorem sgn_sum {x y : FP.Core.Datum} (hx : FP.Core.sgn x = false) (hy : FP.Core.sgn y = false) : FP.Core.sgn (FP.Core.round FP.Core.b64 (FP.Core.exactSum x y)) = false := by
  cases x with
  | nan => rfl
  | inf s =>
    cases y with
    | nan => rfl
    | inf t =>
      have h1 : s = false := hx
      have h2 : t = false := hy
      subst h1; subst h2; rfl
    | fin t d r => exact hx
  | fin s c q =>
    cases y with
    | nan => rfl
    | inf t => exact hy
    | fin t d r =>
      have h1 : s = false := hx
      have h2 : t = false := hy
      subst h1; subst h2
      show FP.Core.sgn (FP.Core.roundRatio FP.Core.b64 (FP.Core.sumSign false false _) _ 1 _) = false
      rw [FP.Core.sgn_roundRatio]
      unfold FP.Core.sumSign
      split
      · rfl
      · exact decide_eq_false (by
          unfold FP.Core.sumUnits FP.Core.signed
          simp only [Bool.false_eq_true, if_false]
          omega)
theorem sgn_product {x y : FP.Core.Datum} (hx : FP.Core.sgn x = false) (hy : FP.Core.sgn y = false) : FP.Core.sgn (FP.Core.round FP.Core.b64 (FP.Core.exactProduct x y)) = false := by
  cases x with
  | nan => rfl
  | inf s =>
    have h1 : s = false := hx
    subst h1
    cases y with
    | nan => rfl
    | inf t =>
      have h2 : t = false := hy
      subst h2; rfl
    | fin t d r =>
      have h2 : t = false := hy
      subst h2
      unfold FP.Core.exactProduct
      simp only
      split <;> rfl
  | fin s c q =>
    have h1 : s = false := hx
    subst h1
    cases y with
    | nan => rfl
    | inf t =>
      have h2 : t = false := hy
      subst h2
      unfold FP.Core.exactProduct
      simp only
      split <;> rfl
    | fin t d r =>
      have h2 : t = false := hy
      subst h2
      show FP.Core.sgn (FP.Core.roundRatio FP.Core.b64 _ _ 1 _) = false
      rw [FP.Core.sgn_roundRatio]
      rfl
theorem sgn_quotient {x y : FP.Core.Datum} (hx : FP.Core.sgn x = false) (hy : FP.Core.sgn y = false) : FP.Core.sgn (FP.Core.quotient FP.Core.b64 x y) = false := by
  cases x with
  | nan => rfl
  | inf s =>
    have h1 : s = false := hx
    subst h1
    cases y with
    | nan => rfl
    | inf t => rfl
    | fin t d r =>
      have h2 : t = false := hy
      subst h2; rfl
  | fin s c q =>
    have h1 : s = false := hx
    subst h1
    cases y with
    | nan => rfl
    | inf t =>
      have h2 : t = false := hy
      subst h2; rfl
    | fin t d r =>
      have h2 : t = false := hy
      subst h2
      unfold FP.Core.quotient
      simp only
      split
      · split <;> rfl
      · rw [FP.Core.sgn_roundRatio]
        rfl
theorem inf_sgn {x : UInt64} (h : NN x) {s : Bool} (hs : FP.Core.val64 x = .inf s) : s = false := by
  have := h.sgn
  rw [hs] at this
  exact this
theorem nn_dadd {a b : UInt64} (ha : NN a) (hb : NN b) : NN (FP.dadd a b) := by
  refine nn_of ?_ ?_
  · rw [← FP.Core.notNaN_iff]
    refine FP.Core.not_true (FP.Core.dadd_nan_iff a b) ?_
    rintro (h | h | ⟨s, h1, h2⟩)
    · exact ha.ne h
    · exact hb.ne h
    · have e1 := inf_sgn ha h1
      have e2 := inf_sgn hb h2
      subst e1
      cases e2
  · show FP.Core.sgn (FP.Core.val64 (FP.Core.dadd a b)) = false
    rw [FP.Core.val64_dadd]
    exact sgn_sum ha.sgn hb.sgn
theorem NF.ninf {x : UInt64} (h : NF x) (s : Bool) : FP.Core.val64 x ≠ .inf s := h.fin.ne_inf s
theorem nn_dmul {a b : UInt64} (ha : NF a) (hb : NN b) (h0 : a.toNat = 0 → NF b) : NN (FP.dmul a b) := by
  refine nn_of ?_ ?_
  · rw [← FP.Core.notNaN_iff]
    refine FP.Core.not_true (FP.Core.dmul_nan_iff a b) ?_
    rintro (h | h | ⟨s, h1, h2⟩ | ⟨s, h1, h2⟩)
    · exact ha.nn.ne h
    · exact hb.ne h
    · exact ha.ninf s h1
    · have h3 := (FP.Core.zero_bits2 a).mp h1
      have h4 := ha.nn.lt63
      exact (h0 (by omega)).ninf s h2
  · show FP.Core.sgn (FP.Core.val64 (FP.Core.dmul a b)) = false
    rw [FP.Core.val64_dmul]
    exact sgn_product ha.nn.sgn hb.sgn
theorem nn_dmulF {a b : UInt64} (ha : NF a) (hb : NF b) : NN (FP.dmul a b) := nn_dmul ha hb.nn (fun _ => hb)
theorem nn_ddiv {a b : UInt64} (ha : NN a) (hb : NF b) (h0 : 0 < b.toNat) : NN (FP.ddiv a b) := by
  refine nn_of ?_ ?_
  · rw [← FP.Core.notNaN_iff]
    refine FP.Core.not_true (FP.Core.ddiv_nan_iff a b) ?_
    rintro (h | h | ⟨s, t, h1, h2⟩ | ⟨h1, h2⟩)
    · exact ha.ne h
    · exact hb.nn.ne h
    · exact hb.ninf t h2
    · have h3 := (FP.Core.zero_bits2 b).mp h2
      have h4 := hb.nn.lt63
      omega
  · show FP.Core.sgn (FP.Core.val64 (FP.Core.ddiv a b)) = false
    rw [FP.Core.val64_ddiv]
    exact sgn_quotient ha.sgn hb.nn.sgn
/-! sums and differences of finite doubles, in units -/
theorem zadd_le {a b v : UInt64} (ha : FP.Core.DFin a) (hb : FP.Core.DFin b) (hv : FP.Core.val64 v ≠ .nan) (h : zv a + zv b ≤ zv v) : zv (FP.dadd a b) ≤ zv v := by
  show FP.Core.zval FP.Core.b64 (FP.Core.val64 (FP.Core.dadd a b)) ≤ _
  rw [FP.Core.val64_dadd]
  exact FP.Core.sum_le FP.Core.good_b64 ha hb (FP.Core.val64_fits a) (FP.Core.val64_fits b) (FP.Core.val64_fits v) hv h
theorem zadd_ge {a b v : UInt64} (ha : FP.Core.DFin a) (hb : FP.Core.DFin b) (hv : FP.Core.val64 v ≠ .nan) (h : zv v ≤ zv a + zv b) : zv v ≤ zv (FP.dadd a b) := by
  show _ ≤ FP.Core.zval FP.Core.b64 (FP.Core.val64 (FP.Core.dadd a b))
  rw [FP.Core.val64_dadd]
  exact FP.Core.sum_ge FP.Core.good_b64 ha hb (FP.Core.val64_fits a) (FP.Core.val64_fits b) (FP.Core.val64_fits v) hv h
theorem neg_fin {b : UInt64} (hb : FP.Core.DFin b) : ∃ s c q, FP.Core.negate (FP.Core.val64 b) = .fin s c q := by
  obtain ⟨s, c, q, h⟩ := hb
  exact ⟨!s, c, q, by rw [h]; rfl⟩
theorem zsub_le {a b v : UInt64} (ha : FP.Core.DFin a) (hb : FP.Core.DFin b) (hv : FP.Core.val64 v ≠ .nan) (h : zv a - zv b ≤ zv v) : zv (FP.dsub a b) ≤ zv v := by
  show FP.Core.zval FP.Core.b64 (FP.Core.val64 (FP.Core.dsub a b)) ≤ _
  rw [FP.Core.val64_dsub]
  refine FP.Core.sum_le FP.Core.good_b64 ha (neg_fin hb) (FP.Core.val64_fits a) (FP.Core.negate_fits (FP.Core.val64_fits b)) (FP.Core.val64_fits v) hv ?_
  rw [FP.Core.zval_negate]
  unfold zv at h
  omega
theorem zsub_ge {a b v : UInt64} (ha : FP.Core.DFin a) (hb : FP.Core.DFin b) (hv : FP.Core.val64 v ≠ .nan) (h : zv v ≤ zv a - zv b) : zv v ≤ zv (FP.dsub a b) := by
  show _ ≤ FP.Core.zval FP.Core.b64 (FP.Core.val64 (FP.Core.dsub a b))
  rw [FP.Core.val64_dsub]
  refine FP.Core.sum_ge FP.Core.good_b64 ha (neg_fin hb) (FP.Core.val64_fits a) (FP.Core.negate_fits (FP.Core.val64_fits b)) (FP.Core.val64_fits v) hv ?_
  rw [FP.Core.zval_negate]
  unfold zv at h
  omega
theorem dsub_ne {a b : UInt64} (ha : FP.Core.DFin a) (hb : FP.Core.DFin b) : FP.Core.val64 (FP.dsub a b) ≠ .nan := (FP.Core.notNaN_iff _).mp (FP.Core.dsub_out ha.notNaN hb)
theorem dadd_ne {a b : UInt64} (ha : FP.Core.DFin a) (hb : FP.Core.DFin b) : FP.Core.val64 (FP.dadd a b) ≠ .nan := (FP.Core.notNaN_iff _).mp (FP.Core.dadd_out ha.notNaN hb)
theorem dmul_ne {a b : UInt64} (ha : FP.Core.DFin a) (hb : FP.Core.DFin b) : FP.Core.val64 (FP.dmul a b) ≠ .nan := (FP.Core.notNaN_iff _).mp (FP.Core.dmul_out ha hb)
theorem ud_1 : ud 1 = 1 := by decide +kernel
theorem zv_1 : zv 1 = 1 := by decide +kernel
theorem zv_0 : zv 0 = 0 := FP.Core.zval64_zero
theorem ne_0 : FP.Core.val64 0 ≠ .nan := NN.ne (x := 0) (by unfold NN; decide +kernel)
theorem ne_1 : FP.Core.val64 1 ≠ .nan := NN.ne (x := 1) (by unfold NN; decide +kernel)
/-- a value above 0 has no sign bit -/
theorem nn_pos {x : UInt64} (h : FP.Core.val64 x ≠ .nan) (hz : 0 < zv x) : NN x := by
  refine nn_of h ?_
  unfold zv FP.Core.zval at hz
  generalize FP.Core.sgn (FP.Core.val64 x) = s at *
  cases s
  · rfl
  · simp only [FP.Core.signed, if_true] at hz
    omega
theorem NN.fin_of_zv {x y : UInt64} (hx : NN x) (hy : NF y) (h : zv x ≤ zv y) : NF x := by
  rw [hx.uz, hy.nn.uz] at h
  have h1 : ud x ≤ ud y := by omega
  rw [ud_le] at h1
  unfold NF at hy ⊢
  omega
theorem dadd_le {a b v : UInt64} (ha : NF a) (hb : NF b) (hv : NN v) (h : ud a + ud b ≤ ud v) : (FP.dadd a b).toNat ≤ v.toNat := by
  have h1 := zadd_le ha.fin hb.fin hv.ne (by rw [ha.nn.uz, hb.nn.uz, hv.uz]; omega)
  rw [(nn_dadd ha.nn hb.nn).uz, hv.uz] at h1
  exact ud_le.mp (by omega)
theorem dadd_ge {a b v : UInt64} (ha : NF a) (hb : NF b) (hv : NN v) (h : ud v ≤ ud a + ud b) : v.toNat ≤ (FP.dadd a b).toNat := by
  have h1 := zadd_ge ha.fin hb.fin hv.ne (by rw [ha.nn.uz, hb.nn.uz, hv.uz]; omega)
  rw [(nn_dadd ha.nn hb.nn).uz, hv.uz] at h1
  exact ud_le.mp (by omega)
theorem ud_pos {x : UInt64} : 0 < ud x ↔ 0 < x.toNat := by
  have h : ud 0 = 0 := by decide +kernel
  have h2 : (0 : UInt64).toNat = 0 := by decide
  have := @ud_lt 0 x
  rw [h, h2] at this
  exact this
/-- a difference: b below a -/
theorem dsub_pos {a b : UInt64} (ha : NF a) (hb : NF b) (h : b.toNat < a.toNat) : NF (FP.dsub a b) ∧ 0 < (FP.dsub a b).toNat ∧ (FP.dsub a b).toNat ≤ a.toNat := by
  have h0 := ud_lt.mpr h
  have h1 := zsub_ge ha.fin hb.fin ne_1 (by rw [zv_1, ha.nn.uz, hb.nn.uz]; omega)
  have h2 := zsub_le ha.fin hb.fin ha.nn.ne (by rw [ha.nn.uz, hb.nn.uz]; omega)
  rw [zv_1] at h1
  have h3 := nn_pos (dsub_ne ha.fin hb.fin) (by omega)
  have h4 := NN.fin_of_zv h3 ha h2
  rw [h3.uz] at h1 h2
  rw [ha.nn.uz] at h2
  exact ⟨h4, ud_pos.mp (by omega), ud_le.mp (by omega)⟩
theorem dsub_nonpos {a b : UInt64} (ha : NF a) (hb : NF b) (h : a.toNat ≤ b.toNat) : zv (FP.dsub a b) ≤ 0 := by
  have h0 := ud_le.mpr h
  have h1 := zsub_le ha.fin hb.fin ne_0 (by rw [zv_0, ha.nn.uz, hb.nn.uz]; omega)
  rw [zv_0] at h1
  exact h1
theorem dadd_geR {a b : UInt64} (ha : NF a) (hb : NF b) : b.toNat ≤ (FP.dadd a b).toNat := dadd_ge ha hb hb.nn (by omega)
theorem dadd_geL {a b : UInt64} (ha : NF a) (hb : NF b) : a.toNat ≤ (FP.dadd a b).toNat := dadd_ge ha hb ha.nn (by omega)
/-! comparisons -/
theorem cmp_zv {a b : UInt64} (ha : FP.Core.val64 a ≠ .nan) (hb : FP.Core.val64 b ≠ .nan) : FP.dcmp a b = some (compare (zv a) (zv b)) := FP.Core.dcmp_zval ha hb
theorem cmp_nn {a b : UInt64} (ha : NN a) (hb : NN b) : (FP.dcmp a b = some .lt ↔ a.toNat < b.toNat) ∧ (FP.dcmp a b = some .eq ↔ a.toNat = b.toNat) ∧ (FP.dcmp a b = some .gt ↔ b.toNat < a.toNat) := FP.Core.mono_bits ha.ne hb.ne ha.lt63 hb.lt63
/-! products and quotients, in units -/
theorem nf_data {a : UInt64} (h : NF a) : ∃ s c q, FP.Core.decode FP.Core.b64 a.toNat = .fin s c q ∧ FP.Core.fits FP.Core.b64 (.fin s c q) ∧ FP.Core.zmag FP.Core.b64 (.fin s c q) = ud a := by
  obtain ⟨s, c, q, h1, h2, h3⟩ := FP.Core.fin_of_mag FP.Core.good_b64 (n := a.toNat) (by rw [FP.Core.mag_toNat64, FP.Core.infBits_b64]; unfold NF at h; omega)
  refine ⟨s, c, q, h1, h2, ?_⟩
  rw [h3, FP.Core.mag_toNat64, Nat.mod_eq_of_lt h.nn.lt63]
  rfl
theorem dfin_data {a : UInt64} (h : FP.Core.DFin a) : ∃ s c q, FP.Core.decode FP.Core.b64 a.toNat = .fin s c q ∧ FP.Core.fits FP.Core.b64 (.fin s c q) ∧ FP.Core.zmag FP.Core.b64 (.fin s c q) = (zv a).natAbs := by
  obtain ⟨s, c, q, h1⟩ := h
  refine ⟨s, c, q, h1, h1 ▸ FP.Core.val64_fits a, ?_⟩
  unfold zv FP.Core.zval
  rw [h1, FP.Core.natAbs_signed]
theorem dmul_le {a b v : UInt64} (ha : NF a) (hb : NF b) (hv : NN v) (h : ud a * ud b ≤ ud v * 2 ^ 1074) : (FP.dmul a b).toNat ≤ v.toNat := by
  obtain ⟨s, c, q, x1, x2, x3⟩ := nf_data ha
  obtain ⟨t, d, r, y1, y2, y3⟩ := nf_data hb
  obtain ⟨p1, p2, p3⟩ := FP.Core.product_units x2 y2
  have hd : FP.Core.decode FP.Core.b64 (FP.Core.dmul a b).toNat = FP.Core.roundRatio FP.Core.b64 (s != t) (c * d) 1 (q + r) := by
    show FP.Core.val64 (FP.Core.dmul a b) = _
    rw [FP.Core.val64_dmul, show FP.Core.val64 a = _ from x1, show FP.Core.val64 b = _ from y1, p1]
    rfl
  have h1 := FP.Core.mag_le FP.Core.good_b64 hd (by decide) (e0 := 2 * FP.Core.b64.qmin) (by rw [FP.Core.qmin_b64]; decide) p2 (m := v.toNat) (by
    rw [p3, x3, y3, Nat.mul_one, show (FP.Core.b64.qmin - 2 * FP.Core.b64.qmin).toNat = 1074 by rw [FP.Core.qmin_b64]; decide]
    exact h)
  rw [FP.Core.mag_toNat64, Nat.mod_eq_of_lt (nn_dmulF ha hb).lt63] at h1
  exact h1
theorem ddiv_mle {a b v : UInt64} (ha : FP.Core.DFin a) (hb : NF b) (h0 : 0 < b.toNat) (h : (zv a).natAbs * 2 ^ 1074 ≤ ud v * ud b) : (FP.ddiv a b).toNat % 2 ^ 63 ≤ v.toNat := by
  obtain ⟨s, c, q, x1, x2, x3⟩ := dfin_data ha
  obtain ⟨t, d, r, y1, y2, y3⟩ := nf_data hb
  have hq := FP.Core.qmin_neg FP.Core.good_b64
  have hb0 := ud_pos.mpr h0
  have hd0 : d ≠ 0 := by
    rintro rfl
    have h1 : FP.Core.zmag FP.Core.b64 (.fin t 0 r) = 0 := Nat.zero_mul _
    omega
  have hd : FP.Core.decode FP.Core.b64 (FP.Core.ddiv a b).toNat = FP.Core.roundRatio FP.Core.b64 (s != t) c d (q - r) := by
    show FP.Core.val64 (FP.Core.ddiv a b) = _
    rw [FP.Core.val64_ddiv, show FP.Core.val64 a = _ from x1, show FP.Core.val64 b = _ from y1]
    simp only [FP.Core.quotient, if_neg hd0]
  have hx1 := x2.2.1
  have hy1 := y2.2.1
  have h1 := FP.Core.mag_le FP.Core.good_b64 hd (by omega) (e0 := 2 * FP.Core.b64.qmin - r) (by omega) (by omega) (m := v.toNat) (by
    have e1 : FP.Core.inUnits c (q - r) (2 * FP.Core.b64.qmin - r) = FP.Core.zmag FP.Core.b64 (.fin s c q) * 2 ^ (-FP.Core.b64.qmin).toNat := by
      show c * _ = c * _ * _
      rw [Nat.mul_assoc, ← Nat.pow_add]; congr 2; omega
    have e2 : 2 ^ (FP.Core.b64.qmin - (2 * FP.Core.b64.qmin - r)).toNat * d = FP.Core.zmag FP.Core.b64 (.fin t d r) := by
      show _ = d * _
      rw [Nat.mul_comm]; congr 2; omega
    rw [e1, Nat.mul_assoc, e2, x3, y3, show (-FP.Core.b64.qmin).toNat = 1074 by rw [FP.Core.qmin_b64]; decide]
    exact h)
  rw [FP.Core.mag_toNat64] at h1
  exact h1
theorem ddiv_le {a b v : UInt64} (ha : NF a) (hb : NF b) (h0 : 0 < b.toNat) (h : ud a * 2 ^ 1074 ≤ ud v * ud b) : (FP.ddiv a b).toNat ≤ v.toNat := by
  have h1 := ddiv_mle (v := v) ha.fin hb h0 (by rw [ha.nn.uz]; exact h)
  rw [Nat.mod_eq_of_lt (nn_ddiv ha.nn hb h0).lt63] at h1
  exact h1
/-! a double by its digits -/
theorem mk_units (c k : Nat) (hc : c < 2 ^ 53) (hk : k ≤ 2045) : ∃ V : UInt64, NF V ∧ ud V = c * 2 ^ k := by
  have hq : FP.Core.b64.qmin = -1074 := FP.Core.qmin_b64
  have hm : FP.Core.b64.qmax = 971 := by decide
  obtain ⟨c', q', h1, h2⟩ := FP.Core.round_exact FP.Core.good_b64 false (c := c) (q := FP.Core.b64.qmin + (k : Int)) (by rw [show FP.Core.b64.p = 53 from rfl]; exact hc) (by omega) (by omega)
  have h3 : FP.Core.fits FP.Core.b64 (.fin false c' q') := h1 ▸ FP.Core.round_fits FP.Core.good_b64 _
  have h4 := FP.Core.val64_of64 h3
  have h5 : NF (FP.Core.of64 (.fin false c' q')) := nf_of ⟨_, _, _, h4⟩ (by rw [h4]; rfl)
  refine ⟨_, h5, ?_⟩
  have h6 := h5.nn.uz
  unfold zv FP.Core.zval at h6
  rw [h4] at h6
  have h7 : FP.Core.inUnits c' q' FP.Core.b64.qmin = ud (FP.Core.of64 (.fin false c' q')) := by
    have : ((FP.Core.inUnits c' q' FP.Core.b64.qmin : Nat) : Int) = (ud (FP.Core.of64 (.fin false c' q')) : Int) := h6
    omega
  rw [← h7, h2]
  unfold FP.Core.inUnits
  rw [show (FP.Core.b64.qmin + (k : Int) - FP.Core.b64.qmin).toNat = k by omega]
theorem ud_form {a : UInt64} (h : NF a) : ∃ c k : Nat, c < 2 ^ 53 ∧ k ≤ 2045 ∧ ud a = c * 2 ^ k ∧ (k = 0 ∨ 2 ^ 52 ≤ c) := by
  obtain ⟨s, c, q, x1, x2, x3⟩ := nf_data h
  have hq : FP.Core.b64.qmin = -1074 := FP.Core.qmin_b64
  have hm : FP.Core.b64.qmax = 971 := by decide
  obtain ⟨h1, h2, h3, h4⟩ := x2
  refine ⟨c, (q - FP.Core.b64.qmin).toNat, h1, by omega, x3.symm, ?_⟩
  rcases h4 with h4 | h4
  · exact Or.inl (by omega)
  · exact Or.inr h4
end
section
/-! MY OWN ROWS: contracts over a world, calls that leave the rest, comparisons of doubles, the row of barrels as a world -/
/-- a method's start: these arguments, this world -/
def Pm (D : va_G) (tys : List (ClassId × FieldType)) (av : List Value) (ws : va_W) (sz : Nat) : Array Value → State → Prop := va_Pc av (fun U => U.heap.size = sz ∧ va_P D vwCl ws U.heap ∧ va_K D vwCl tys U ∧ va_D (fun _ => True) ws)
/-- the start of one that only reads -/
def Pr (D : va_G) (tys : List (ClassId × FieldType)) (av : List Value) (ws : va_W) : Array Value → State → Prop := va_Pc av (fun U => va_P D vwCl ws U.heap ∧ va_K D vwCl tys U)
abbrev Bm (D : va_G) (tys : List (ClassId × FieldType)) (A : Nat → Prop) (ws : va_W) : Unit → State → Prop := fun _ t => va_P D vwCl ws t.heap ∧ va_K D vwCl tys t ∧ va_D A ws
theorem Pm_blind {D : va_G} {tys : List (ClassId × FieldType)} {av : List Value} {ws : va_W} {sz : Nat} : FrameBlind (Pm D tys av ws sz) := fun a U g mk q => by
  obtain ⟨q0, q1, qP, qK, qD⟩ := q
  exact ⟨q0, q1, qP, va_K.moved (u := U) (U := U.calling g mk a) (Vm.Alike.refl U.vm) qK, qD⟩
theorem Pr_blind {D : va_G} {tys : List (ClassId × FieldType)} {av : List Value} {ws : va_W} : FrameBlind (Pr D tys av ws) := fun a U g mk q => by
  obtain ⟨q0, qP, qK⟩ := q
  exact ⟨q0, qP, va_K.moved (u := U) (U := U.calling g mk a) (Vm.Alike.refl U.vm) qK⟩
section PRE
variable {s : State} {H : Heap} {D : va_G} {tys : List (ClassId × FieldType)} {ws : va_W} {A : Nat → Prop} {As : List Value} {b : Addr}
theorem pmS (hP : va_P D vwCl ws H) (hK : va_K D vwCl tys s) (hD : va_D A ws) : PreS s H (Pm D tys As ws H.size) As :=
  ⟨Pm_blind, fun U hU hW => ⟨rfl, by rw [hU], by rw [hU]; exact hP, va_K.moved hW.alike hK, hD.weaken (fun _ _ _ _ => trivial)⟩⟩
theorem pmV (ci k : Nat) (C : String) (T : u_T) (N : Nat) {fs : List Value} (hc : vwCl[ci]? = some (C, T, N)) (he : ws[k]? = some (b, .inr (ci, fs))) (hP : va_P D vwCl ws H) (hK : va_K D vwCl tys s) (hD : va_D A ws) : PreV s H C b (Pm D tys (.ref b :: As) ws H.size) As :=
  ⟨Pm_blind, va_recv hK hP hc he, (pmS hP hK hD).2⟩
theorem prS (hP : va_P D vwCl ws H) (hK : va_K D vwCl tys s) : PreS s H (Pr D tys As ws) As :=
  ⟨Pr_blind, fun U hU hW => ⟨rfl, by rw [hU]; exact hP, va_K.moved hW.alike hK⟩⟩
theorem prV (ci k : Nat) (C : String) (T : u_T) (N : Nat) {fs : List Value} (hc : vwCl[ci]? = some (C, T, N)) (he : ws[k]? = some (b, .inr (ci, fs))) (hP : va_P D vwCl ws H) (hK : va_K D vwCl tys s) : PreV s H C b (Pr D tys (.ref b :: As) ws) As :=
  ⟨Pr_blind, va_recv hK hP hc he, (prS hP hK).2⟩
end PRE
/-! parts of a world, and what comes back -/
section JOIN
variable {A0 : Nat → Prop} {D : va_G} {cl : List vw_C} {H H1 : Heap}
theorem vj_inB {w1 w2 w3 : va_W} {k : Nat} {q : Nat × va_E} (h : w2[k]? = some q) : (w1 ++ (w2 ++ w3))[w1.length + k]? = some q := by
  rw [List.getElem?_append_right (by omega), Nat.add_sub_cancel_left, List.getElem?_append_left (List.getElem?_eq_some_iff.mp h).1]
  exact h
theorem vj_inC {w1 w2 w3 : va_W} {k : Nat} {q : Nat × va_E} (h : w3[k]? = some q) : (w1 ++ (w2 ++ w3))[w1.length + (w2.length + k)]? = some q := by
  rw [List.getElem?_append_right (by omega), Nat.add_sub_cancel_left, List.getElem?_append_right (by omega), Nat.add_sub_cancel_left]
  exact h
theorem vj_inA {w1 w2 : va_W} {k : Nat} {q : Nat × va_E} (h : w1[k]? = some q) : (w1 ++ w2)[k]? = some q := by
  rw [List.getElem?_append_left (List.getElem?_eq_some_iff.mp h).1]
  exact h
theorem vj_mP {w1 w2 w3 : va_W} (hP : va_P D cl (w1 ++ (w2 ++ w3)) H) : va_P D cl w2 H := fun k q h => hP _ q (vj_inB h)
theorem vj_mD {w1 w2 w3 : va_W} (hD : va_D A0 (w1 ++ (w2 ++ w3))) : va_D A0 w2 :=
  ⟨fun i j p q hi hj h => by have := hD.1 _ _ p q (vj_inB hi) (vj_inB hj) h; omega, fun k q h => hD.2 _ q (vj_inB h)⟩
theorem vj_mF {w1 w2 w3 : va_W} {H0 : Heap} {locs : List Loc} (hD : va_D A0 (w1 ++ (w2 ++ w3))) (hS : va_S A0 H0 H locs) (hA : ∀ q, H0.size ≤ q → A0 q) : ∀ q, va_A w2 H.size q → A0 q := by
  intro q h
  rcases h with ⟨k, e, h⟩ | h
  · exact hD.2 _ (q, e) (vj_inB h)
  · exact hA q (Nat.le_trans hS.1 h)
theorem vj_mid {w1 w2 w2' w3 : va_W} (hP : va_P D cl (w1 ++ (w2 ++ w3)) H) (hD : va_D A0 (w1 ++ (w2 ++ w3))) (hk : ∀ q : Nat, q < H.size → ¬ va_A w2 H.size q → H1[q]? = H[q]?) (hF : ∀ q, va_A w2 H.size q → A0 q) (hP1 : va_P D cl w2' H1) (hD1 : va_D (va_A w2 H.size) w2') : va_P D cl (w1 ++ (w2' ++ w3)) H1 ∧ va_D A0 (w1 ++ (w2' ++ w3)) := by
  have apart : ∀ (K : Nat) (q : Nat × va_E), (w1 ++ (w2 ++ w3))[K]? = some q → (K < w1.length ∨ w1.length + w2.length ≤ K) → q.1 < H.size ∧ ¬ va_A w2 H.size q.1 := by
    intro K q hq hK
    have hl := (hP K q hq).lt
    refine ⟨hl, fun h => ?_⟩
    rcases h with ⟨k2, e, h⟩ | h
    · have h2 := hD.1 K (w1.length + k2) q (q.1, e) hq (vj_inB h) rfl
      have h3 := (List.getElem?_eq_some_iff.mp h).1
      omega
    · omega
  have apA : ∀ (k : Nat) (q : Nat × va_E), w1[k]? = some q → q.1 < H.size ∧ ¬ va_A w2 H.size q.1 := fun k q h => apart k q (vj_inA h) (Or.inl (List.getElem?_eq_some_iff.mp h).1)
  have apC : ∀ (k : Nat) (q : Nat × va_E), w3[k]? = some q → q.1 < H.size ∧ ¬ va_A w2 H.size q.1 := fun k q h => apart _ q (vj_inC h) (Or.inr (by omega))
  refine ⟨va_P.app (fun k q h => (hP k q (vj_inA h)).kept (hk _ (apA k q h).1 (apA k q h).2)) (va_P.app hP1 (fun k q h => (hP _ q (vj_inC h)).kept (hk _ (apC k q h).1 (apC k q h).2))), ?_⟩
  have hDa : va_D A0 w1 := ⟨fun i j p q hi hj h => hD.1 i j p q (vj_inA hi) (vj_inA hj) h, fun k q h => hD.2 k q (vj_inA h)⟩
  have hDc : va_D A0 w3 := ⟨fun i j p q hi hj h => by have := hD.1 _ _ p q (vj_inC hi) (vj_inC hj) h; omega, fun k q h => hD.2 _ q (vj_inC h)⟩
  have hDb : va_D A0 w2' := hD1.weaken (fun k q _ h => hF q.1 h)
  refine va_D.app hDa (va_D.app hDb hDc (fun i j p q hi hj h => ?_)) (fun i j p q hi hj h => ?_)
  · exact (apC j q hj).2 (by rw [← h]; exact hD1.2 i p hi)
  · by_cases hb : j < w2'.length
    · rw [List.getElem?_append_left hb] at hj
      exact (apA i p hi).2 (by rw [h]; exact hD1.2 j q hj)
    · rw [List.getElem?_append_right (by omega)] at hj
      have h2 := hD.1 _ _ p q (vj_inA hi) (vj_inC hj) h
      have h3 := (List.getElem?_eq_some_iff.mp hi).1
      omega
/-- one cell of a world, by its place -/
theorem vj_oP {ws : va_W} {k x : Nat} {e : va_E} (hk : ws[k]? = some (x, e)) (hP : va_P D cl ws H) : va_P D cl [(x, e)] H := by
  intro j q hj
  match j, hj with
  | 0, hj => cases hj; exact hP k _ hk
  | j + 1, hj => simp at hj
theorem vj_oD {ws : va_W} {k x : Nat} {e : va_E} (hk : ws[k]? = some (x, e)) (hD : va_D A0 ws) : va_D A0 [(x, e)] := by
  refine ⟨fun i j p q hi hj _ => ?_, fun j q hj => ?_⟩
  · have h1 := (List.getElem?_eq_some_iff.mp hi).1
    have h2 := (List.getElem?_eq_some_iff.mp hj).1
    simp at h1 h2
    omega
  · match j, hj with
    | 0, hj => cases hj; exact hD.2 k _ hk
    | j + 1, hj => simp at hj
theorem vj_oF {ws : va_W} {k x : Nat} {e : va_E} {H0 : Heap} {locs : List Loc} (hk : ws[k]? = some (x, e)) (hD : va_D A0 ws) (hS : va_S A0 H0 H locs) (hA : ∀ q, H0.size ≤ q → A0 q) : ∀ q, va_A [(x, e)] H.size q → A0 q := by
  intro q h
  rcases h with ⟨j, e2, h⟩ | h
  · match j, h with
    | 0, h => cases h; exact hD.2 k _ hk
    | j + 1, h => simp at h
  · exact hA q (Nat.le_trans hS.1 h)
theorem vj_set {ws : va_W} {k x : Nat} {e e' : va_E} (hk0 : ws[k]? = some (x, e)) (hP : va_P D cl ws H) (hD : va_D A0 ws) (hk : ∀ q : Nat, q < H.size → ¬ va_A [(x, e)] H.size q → H1[q]? = H[q]?) (hP1 : va_P D cl [(x, e')] H1) : va_P D cl (ws.set k (x, e')) H1 ∧ va_D A0 (ws.set k (x, e')) := by
  refine ⟨fun j q hj => ?_, hD.set hk0⟩
  have hl := (List.getElem?_eq_some_iff.mp hk0).1
  by_cases hjk : j = k
  · subst hjk
    rw [List.getElem?_set_self hl] at hj
    cases hj
    exact hP1 0 _ rfl
  · rw [List.getElem?_set_ne (Ne.symm hjk)] at hj
    refine (hP j q hj).kept (hk q.1 (hP j q hj).lt (fun h => ?_))
    rcases h with ⟨i, e2, h⟩ | h
    · match i, h with
      | 0, h =>
        have h2 : q.1 = x := by cases h; rfl
        exact hjk (hD.1 j k q (x, e) hj hk0 h2)
      | i + 1, h => simp at h
    · have := (hP j q hj).lt
      omega
/-- two cells -/
theorem vj_tP {ws : va_W} {k1 x1 k2 x2 : Nat} {e1 e2 : va_E} (h1 : ws[k1]? = some (x1, e1)) (h2 : ws[k2]? = some (x2, e2)) (hP : va_P D cl ws H) : va_P D cl [(x1, e1), (x2, e2)] H := by
  intro j q hj
  match j, hj with
  | 0, hj => cases hj; exact hP k1 _ h1
  | 1, hj => cases hj; exact hP k2 _ h2
  | j + 2, hj => simp at hj
theorem vj_tD {ws : va_W} {k1 x1 k2 x2 : Nat} {e1 e2 : va_E} (h1 : ws[k1]? = some (x1, e1)) (h2 : ws[k2]? = some (x2, e2)) (hn : k1 ≠ k2) (hD : va_D A0 ws) : va_D A0 [(x1, e1), (x2, e2)] := by
  have hx : x1 ≠ x2 := fun h => hn (hD.1 k1 k2 _ _ h1 h2 h)
  refine ⟨fun i j p q hi hj h => ?_, fun j q hj => ?_⟩
  · match i, j, hi, hj with
    | 0, 0, _, _ => rfl
    | 1, 1, _, _ => rfl
    | 0, 1, hi, hj => cases hi; cases hj; exact absurd h hx
    | 1, 0, hi, hj => cases hi; cases hj; exact absurd h.symm hx
    | i + 2, _, hi, _ => simp at hi
    | _, j + 2, _, hj => simp at hj
  · match j, hj with
    | 0, hj => cases hj; exact hD.2 k1 _ h1
    | 1, hj => cases hj; exact hD.2 k2 _ h2
    | j + 2, hj => simp at hj
theorem vj_tF {ws : va_W} {k1 x1 k2 x2 : Nat} {e1 e2 : va_E} {H0 : Heap} {locs : List Loc} (h1 : ws[k1]? = some (x1, e1)) (h2 : ws[k2]? = some (x2, e2)) (hD : va_D A0 ws) (hS : va_S A0 H0 H locs) (hA : ∀ q, H0.size ≤ q → A0 q) : ∀ q, va_A [(x1, e1), (x2, e2)] H.size q → A0 q := by
  intro q h
  rcases h with ⟨j, e3, h⟩ | h
  · match j, h with
    | 0, h => cases h; exact hD.2 k1 _ h1
    | 1, h => cases h; exact hD.2 k2 _ h2
    | j + 2, h => simp at h
  · exact hA q (Nat.le_trans hS.1 h)
theorem vj_two {ws : va_W} {k1 x1 k2 x2 : Nat} {e1 e2 e1' e2' : va_E} (h1 : ws[k1]? = some (x1, e1)) (h2 : ws[k2]? = some (x2, e2)) (hn : k1 ≠ k2) (hP : va_P D cl ws H) (hD : va_D A0 ws) (hk : ∀ q : Nat, q < H.size → ¬ va_A [(x1, e1), (x2, e2)] H.size q → H1[q]? = H[q]?) (hP1 : va_P D cl [(x1, e1'), (x2, e2')] H1) : va_P D cl ((ws.set k1 (x1, e1')).set k2 (x2, e2')) H1 ∧ va_D A0 ((ws.set k1 (x1, e1')).set k2 (x2, e2')) := by
  have hl1 := (List.getElem?_eq_some_iff.mp h1).1
  have hl2 := (List.getElem?_eq_some_iff.mp h2).1
  have h2' : (ws.set k1 (x1, e1'))[k2]? = some (x2, e2) := by rw [List.getElem?_set_ne hn]; exact h2
  refine ⟨fun j q hj => ?_, (hD.set h1).set h2'⟩
  by_cases hj2 : j = k2
  · subst hj2
    rw [List.getElem?_set_self (by rw [List.length_set]; exact hl2)] at hj
    cases hj
    exact hP1 1 _ rfl
  · rw [List.getElem?_set_ne (Ne.symm hj2)] at hj
    by_cases hj1 : j = k1
    · subst hj1
      rw [List.getElem?_set_self hl1] at hj
      cases hj
      exact hP1 0 _ rfl
    · rw [List.getElem?_set_ne (Ne.symm hj1)] at hj
      refine (hP j q hj).kept (hk q.1 (hP j q hj).lt (fun h => ?_))
      rcases h with ⟨i, e3, h⟩ | h
      · match i, h with
        | 0, h =>
          have h3 : q.1 = x1 := by cases h; rfl
          exact hj1 (hD.1 j k1 q (x1, e1) hj h1 h3)
        | 1, h =>
          have h3 : q.1 = x2 := by cases h; rfl
          exact hj2 (hD.1 j k2 q (x2, e2) hj h2 h3)
        | i + 2, h => simp at h
      · have := (hP j q hj).lt
        omega
end JOIN
/-! calls with one answer, and the world behind them -/
section CALL
variable {p : Program} {l : Launch} {e : Env} {R : Room} {s : State} {m : MethodId} {args : Array Value} {below : List Frame} {meth : Method} {c : Code} {H : Heap} {locs : List Loc} {cells slots : Nat} {Q : State → Prop}
variable {pc : Nat} {ls : Array Slot} {rest st0 : List Value} {aa : Array Value} {D : va_G} {tc : List (ClassId × FieldType)} {A0 : Nat → Prop} {H0 : Heap}
theorem kr_i {RES : Int32} (hr : CallRun p l e R s m args below meth c H locs cells slots 0 0 (F0 m pc ls st0) rest (vp_Si (fun r => r = RES) aa) (fun _ => False)) (kk : W p l e R s m args below meth c H locs cells slots Q (F0 m (pc + 3) ls (.int RES :: rest))) : W p l e R s m args below meth c H locs cells slots Q (F0 m pc ls st0) := vp_callSi hr (fun r h => by subst h; exact kk)
theorem kr_d {RES : UInt64} (hr : CallRun p l e R s m args below meth c H locs cells slots 0 0 (F0 m pc ls st0) rest (vp_Sd (fun r => r = RES) aa) (fun _ => False)) (kk : W p l e R s m args below meth c H locs cells slots Q (F0 m (pc + 3) ls (.double RES :: rest))) : W p l e R s m args below meth c H locs cells slots Q (F0 m pc ls st0) := vp_callSd hr (fun r h => by subst h; exact kk)
section MID
variable {w1 w2 w2' w3 : va_W} {mc ms : Nat}
theorem kc_i {RES : Int32} (hr : va_Run p l e R s m args below meth c H locs cells slots mc ms (F0 m pc ls st0) rest (va_Qi (fun (r : Int32) (_ : Unit) => r = RES) (Bm D tc (va_A w2 H.size) w2') (va_A w2 H.size) aa) (va_A w2 H.size)) (hP : va_P D vwCl (w1 ++ (w2 ++ w3)) H) (hD : va_D A0 (w1 ++ (w2 ++ w3))) (hS : va_S A0 H0 H locs) (hA : ∀ q, H0.size ≤ q → A0 q)
    (kk : ∀ (H1 : Heap) (locs1 : List Loc), va_P D vwCl (w1 ++ (w2' ++ w3)) H1 → va_D A0 (w1 ++ (w2' ++ w3)) → va_S A0 H0 H1 locs1 → W p l e R s m args below meth c H1 locs1 (cells + mc) (slots + ms) Q (F0 m (pc + 3) ls (.int RES :: rest))) : W p l e R s m args below meth c H locs cells slots Q (F0 m pc ls st0) := by
  refine va_calli hr hS (fun q _ h => vj_mF hD hS hA q h) (vj_mF hD hS hA) (fun r u t H1 locs1 ht hvm hw hB hz hk hS1 => ?_)
  subst hw
  obtain ⟨hP1, hK1, hD1⟩ := hB
  rw [ht] at hP1
  obtain ⟨hP2, hD2⟩ := vj_mid hP hD hk (vj_mF hD hS hA) hP1 hD1
  exact kk H1 locs1 hP2 hD2 hS1
theorem kc_d {RES : UInt64} (hr : va_Run p l e R s m args below meth c H locs cells slots mc ms (F0 m pc ls st0) rest (va_Qd (fun (r : UInt64) (_ : Unit) => r = RES) (Bm D tc (va_A w2 H.size) w2') (va_A w2 H.size) aa) (va_A w2 H.size)) (hP : va_P D vwCl (w1 ++ (w2 ++ w3)) H) (hD : va_D A0 (w1 ++ (w2 ++ w3))) (hS : va_S A0 H0 H locs) (hA : ∀ q, H0.size ≤ q → A0 q)
    (kk : ∀ (H1 : Heap) (locs1 : List Loc), va_P D vwCl (w1 ++ (w2' ++ w3)) H1 → va_D A0 (w1 ++ (w2' ++ w3)) → va_S A0 H0 H1 locs1 → W p l e R s m args below meth c H1 locs1 (cells + mc) (slots + ms) Q (F0 m (pc + 3) ls (.double RES :: rest))) : W p l e R s m args below meth c H locs cells slots Q (F0 m pc ls st0) := by
  refine va_calld hr hS (fun q _ h => vj_mF hD hS hA q h) (vj_mF hD hS hA) (fun r u t H1 locs1 ht hvm hw hB hz hk hS1 => ?_)
  subst hw
  obtain ⟨hP1, hK1, hD1⟩ := hB
  rw [ht] at hP1
  obtain ⟨hP2, hD2⟩ := vj_mid hP hD hk (vj_mF hD hS hA) hP1 hD1
  exact kk H1 locs1 hP2 hD2 hS1
theorem kc_v (hr : va_Run p l e R s m args below meth c H locs cells slots mc ms (F0 m pc ls st0) rest (va_Qv (fun (_ : Unit) => True) (Bm D tc (va_A w2 H.size) w2') (va_A w2 H.size) aa) (va_A w2 H.size)) (hP : va_P D vwCl (w1 ++ (w2 ++ w3)) H) (hD : va_D A0 (w1 ++ (w2 ++ w3))) (hS : va_S A0 H0 H locs) (hA : ∀ q, H0.size ≤ q → A0 q)
    (kk : ∀ (H1 : Heap) (locs1 : List Loc), va_P D vwCl (w1 ++ (w2' ++ w3)) H1 → va_D A0 (w1 ++ (w2' ++ w3)) → va_S A0 H0 H1 locs1 → W p l e R s m args below meth c H1 locs1 (cells + mc) (slots + ms) Q (F0 m (pc + 3) ls rest)) : W p l e R s m args below meth c H locs cells slots Q (F0 m pc ls st0) := by
  refine va_callv hr hS (fun q _ h => vj_mF hD hS hA q h) (vj_mF hD hS hA) (fun u t H1 locs1 ht hvm hw hB hz hk hS1 => ?_)
  obtain ⟨hP1, hK1, hD1⟩ := hB
  rw [ht] at hP1
  obtain ⟨hP2, hD2⟩ := vj_mid hP hD hk (vj_mF hD hS hA) hP1 hD1
  exact kk H1 locs1 hP2 hD2 hS1
end MID
section ONE
variable {ws : va_W} {k x : Nat} {e0 e1 : va_E} {mc ms : Nat}
theorem ko_i {RES : Int32} (hr : va_Run p l e R s m args below meth c H locs cells slots mc ms (F0 m pc ls st0) rest (va_Qi (fun (r : Int32) (_ : Unit) => r = RES) (Bm D tc (va_A [(x, e0)] H.size) [(x, e1)]) (va_A [(x, e0)] H.size) aa) (va_A [(x, e0)] H.size)) (hk0 : ws[k]? = some (x, e0)) (hP : va_P D vwCl ws H) (hD : va_D A0 ws) (hS : va_S A0 H0 H locs) (hA : ∀ q, H0.size ≤ q → A0 q)
    (kk : ∀ (H1 : Heap) (locs1 : List Loc), va_P D vwCl (ws.set k (x, e1)) H1 → va_D A0 (ws.set k (x, e1)) → va_S A0 H0 H1 locs1 → W p l e R s m args below meth c H1 locs1 (cells + mc) (slots + ms) Q (F0 m (pc + 3) ls (.int RES :: rest))) : W p l e R s m args below meth c H locs cells slots Q (F0 m pc ls st0) := by
  refine va_calli hr hS (fun q _ h => vj_oF hk0 hD hS hA q h) (vj_oF hk0 hD hS hA) (fun r u t H1 locs1 ht hvm hw hB hz hk hS1 => ?_)
  subst hw
  obtain ⟨hP1, hK1, hD1⟩ := hB
  rw [ht] at hP1
  obtain ⟨hP2, hD2⟩ := vj_set hk0 hP hD hk hP1
  exact kk H1 locs1 hP2 hD2 hS1
theorem ko_d {RES : UInt64} (hr : va_Run p l e R s m args below meth c H locs cells slots mc ms (F0 m pc ls st0) rest (va_Qd (fun (r : UInt64) (_ : Unit) => r = RES) (Bm D tc (va_A [(x, e0)] H.size) [(x, e1)]) (va_A [(x, e0)] H.size) aa) (va_A [(x, e0)] H.size)) (hk0 : ws[k]? = some (x, e0)) (hP : va_P D vwCl ws H) (hD : va_D A0 ws) (hS : va_S A0 H0 H locs) (hA : ∀ q, H0.size ≤ q → A0 q)
    (kk : ∀ (H1 : Heap) (locs1 : List Loc), va_P D vwCl (ws.set k (x, e1)) H1 → va_D A0 (ws.set k (x, e1)) → va_S A0 H0 H1 locs1 → W p l e R s m args below meth c H1 locs1 (cells + mc) (slots + ms) Q (F0 m (pc + 3) ls (.double RES :: rest))) : W p l e R s m args below meth c H locs cells slots Q (F0 m pc ls st0) := by
  refine va_calld hr hS (fun q _ h => vj_oF hk0 hD hS hA q h) (vj_oF hk0 hD hS hA) (fun r u t H1 locs1 ht hvm hw hB hz hk hS1 => ?_)
  subst hw
  obtain ⟨hP1, hK1, hD1⟩ := hB
  rw [ht] at hP1
  obtain ⟨hP2, hD2⟩ := vj_set hk0 hP hD hk hP1
  exact kk H1 locs1 hP2 hD2 hS1
theorem ko_v (hr : va_Run p l e R s m args below meth c H locs cells slots mc ms (F0 m pc ls st0) rest (va_Qv (fun (_ : Unit) => True) (Bm D tc (va_A [(x, e0)] H.size) [(x, e1)]) (va_A [(x, e0)] H.size) aa) (va_A [(x, e0)] H.size)) (hk0 : ws[k]? = some (x, e0)) (hP : va_P D vwCl ws H) (hD : va_D A0 ws) (hS : va_S A0 H0 H locs) (hA : ∀ q, H0.size ≤ q → A0 q)
    (kk : ∀ (H1 : Heap) (locs1 : List Loc), va_P D vwCl (ws.set k (x, e1)) H1 → va_D A0 (ws.set k (x, e1)) → va_S A0 H0 H1 locs1 → W p l e R s m args below meth c H1 locs1 (cells + mc) (slots + ms) Q (F0 m (pc + 3) ls rest)) : W p l e R s m args below meth c H locs cells slots Q (F0 m pc ls st0) := by
  refine va_callv hr hS (fun q _ h => vj_oF hk0 hD hS hA q h) (vj_oF hk0 hD hS hA) (fun u t H1 locs1 ht hvm hw hB hz hk hS1 => ?_)
  obtain ⟨hP1, hK1, hD1⟩ := hB
  rw [ht] at hP1
  obtain ⟨hP2, hD2⟩ := vj_set hk0 hP hD hk hP1
  exact kk H1 locs1 hP2 hD2 hS1
end ONE
section TWO
variable {ws : va_W} {k1 x1 k2 x2 : Nat} {a0 a1 b0 b1 : va_E} {mc ms : Nat}
theorem kt_d {RES : UInt64} (hr : va_Run p l e R s m args below meth c H locs cells slots mc ms (F0 m pc ls st0) rest (va_Qd (fun (r : UInt64) (_ : Unit) => r = RES) (Bm D tc (va_A [(x1, a0), (x2, b0)] H.size) [(x1, a1), (x2, b1)]) (va_A [(x1, a0), (x2, b0)] H.size) aa) (va_A [(x1, a0), (x2, b0)] H.size)) (h1 : ws[k1]? = some (x1, a0)) (h2 : ws[k2]? = some (x2, b0)) (hn : k1 ≠ k2) (hP : va_P D vwCl ws H) (hD : va_D A0 ws) (hS : va_S A0 H0 H locs) (hA : ∀ q, H0.size ≤ q → A0 q)
    (kk : ∀ (H1 : Heap) (locs1 : List Loc), va_P D vwCl ((ws.set k1 (x1, a1)).set k2 (x2, b1)) H1 → va_D A0 ((ws.set k1 (x1, a1)).set k2 (x2, b1)) → va_S A0 H0 H1 locs1 → W p l e R s m args below meth c H1 locs1 (cells + mc) (slots + ms) Q (F0 m (pc + 3) ls (.double RES :: rest))) : W p l e R s m args below meth c H locs cells slots Q (F0 m pc ls st0) := by
  refine va_calld hr hS (fun q _ h => vj_tF h1 h2 hD hS hA q h) (vj_tF h1 h2 hD hS hA) (fun r u t H1 locs1 ht hvm hw hB hz hk hS1 => ?_)
  subst hw
  obtain ⟨hP1, hK1, hD1⟩ := hB
  rw [ht] at hP1
  obtain ⟨hP2, hD2⟩ := vj_two h1 h2 hn hP hD hk hP1
  exact kk H1 locs1 hP2 hD2 hS1
theorem kt_v (hr : va_Run p l e R s m args below meth c H locs cells slots mc ms (F0 m pc ls st0) rest (va_Qv (fun (_ : Unit) => True) (Bm D tc (va_A [(x1, a0), (x2, b0)] H.size) [(x1, a1), (x2, b1)]) (va_A [(x1, a0), (x2, b0)] H.size) aa) (va_A [(x1, a0), (x2, b0)] H.size)) (h1 : ws[k1]? = some (x1, a0)) (h2 : ws[k2]? = some (x2, b0)) (hn : k1 ≠ k2) (hP : va_P D vwCl ws H) (hD : va_D A0 ws) (hS : va_S A0 H0 H locs) (hA : ∀ q, H0.size ≤ q → A0 q)
    (kk : ∀ (H1 : Heap) (locs1 : List Loc), va_P D vwCl ((ws.set k1 (x1, a1)).set k2 (x2, b1)) H1 → va_D A0 ((ws.set k1 (x1, a1)).set k2 (x2, b1)) → va_S A0 H0 H1 locs1 → W p l e R s m args below meth c H1 locs1 (cells + mc) (slots + ms) Q (F0 m (pc + 3) ls rest)) : W p l e R s m args below meth c H locs cells slots Q (F0 m pc ls st0) := by
  refine va_callv hr hS (fun q _ h => vj_tF h1 h2 hD hS hA q h) (vj_tF h1 h2 hD hS hA) (fun u t H1 locs1 ht hvm hw hB hz hk hS1 => ?_)
  obtain ⟨hP1, hK1, hD1⟩ := hB
  rw [ht] at hP1
  obtain ⟨hP2, hD2⟩ := vj_two h1 h2 hn hP hD hk hP1
  exact kk H1 locs1 hP2 hD2 hS1
end TWO
theorem kd_eq {x y : UInt64} (h : x = y) (k : W p l e R s m args below meth c H locs cells slots Q (F0 m pc ls (.double y :: rest))) : W p l e R s m args below meth c H locs cells slots Q (F0 m pc ls (.double x :: rest)) := by subst h; exact k
theorem ki_eq {x y : Int32} (h : x = y) (k : W p l e R s m args below meth c H locs cells slots Q (F0 m pc ls (.int y :: rest))) : W p l e R s m args below meth c H locs cells slots Q (F0 m pc ls (.int x :: rest)) := by subst h; exact k
theorem kW_H {g : JFrame} (k : ∀ H : Heap, H = s.heap → W p l e R s m args below meth c H locs cells slots Q g) : W p l e R s m args below meth c s.heap locs cells slots Q g := k _ rfl
/-! doubles: constants 0 and 1, a comparison with its branch -/
variable {cc : ByteArray}
theorem kd_0 (hexec : p.tables.exec = Jvm.exec) (hb : c.code = cc) (hdg : decode cc pc = .ok (.dconst 0, 1)) (k : W p l e R s m args below meth c H locs cells slots Q (F0 m (pc + 1) ls (.double 0 :: rest))) : W p l e R s m args below meth c H locs cells slots Q (F0 m pc ls rest) := lv_dconst0 hexec hb hdg k
theorem kd_1 (hexec : p.tables.exec = Jvm.exec) (hb : c.code = cc) (hdg : decode cc pc = .ok (.dconst 1, 1)) (k : W p l e R s m args below meth c H locs cells slots Q (F0 m (pc + 1) ls (.double 4607182418800017408 :: rest))) : W p l e R s m args below meth c H locs cells slots Q (F0 m pc ls rest) := lv_dconst1 hexec hb hdg k
theorem cv_ge (o : Option Ordering) (op : CmpOp) (h : o ≠ none) : 0 ≤ Op.cmpValue o op ↔ o ≠ some .lt := by
  rcases o with _ | (_ | _ | _)
  · exact absurd rfl h
  all_goals simp [Op.cmpValue]
  all_goals decide
theorem cv_lt (o : Option Ordering) (op : CmpOp) (h : o ≠ none) : Op.cmpValue o op < 0 ↔ o = some .lt := by
  rcases o with _ | (_ | _ | _)
  · exact absurd rfl h
  all_goals simp [Op.cmpValue]
  all_goals decide
theorem cv_gt (o : Option Ordering) (op : CmpOp) (h : o ≠ none) : 0 < Op.cmpValue o op ↔ o = some .gt := by
  rcases o with _ | (_ | _ | _)
  · exact absurd rfl h
  all_goals simp [Op.cmpValue]
  all_goals decide
theorem cv_le (o : Option Ordering) (op : CmpOp) (h : o ≠ none) : Op.cmpValue o op ≤ 0 ↔ o ≠ some .gt := by
  rcases o with _ | (_ | _ | _)
  · exact absurd rfl h
  all_goals simp [Op.cmpValue]
  all_goals decide
section CMP
variable {x y : UInt64} {op : CmpOp} {off : Int} {tgt : Nat}
theorem kd_ge (hexec : p.tables.exec = Jvm.exec) (hb : c.code = cc) (hd1 : decode cc pc = .ok (.dcmp op, 1)) (hd2 : decode cc (pc + 1) = .ok (.ifCond .ge off, 3)) (ht : ((pc + 1 : Nat) : Int) + off = (tgt : Int)) (hne : FP.dcmp x y ≠ none)
    (kt : FP.dcmp x y ≠ some .lt → W p l e R s m args below meth c H locs cells slots Q (F0 m tgt ls rest)) (kf : FP.dcmp x y = some .lt → W p l e R s m args below meth c H locs cells slots Q (F0 m (pc + 4) ls rest)) : W p l e R s m args below meth c H locs cells slots Q (F0 m pc ls (.double y :: .double x :: rest)) := by
  refine lv_dcmp hexec hb hd1 ?_
  exact lv_if_ge hexec hb hd2 ht (fun h => kt ((cv_ge _ _ hne).mp h)) (fun h => kf (Classical.byContradiction fun h2 => h ((cv_ge _ _ hne).mpr h2)))
theorem kd_lt (hexec : p.tables.exec = Jvm.exec) (hb : c.code = cc) (hd1 : decode cc pc = .ok (.dcmp op, 1)) (hd2 : decode cc (pc + 1) = .ok (.ifCond .lt off, 3)) (ht : ((pc + 1 : Nat) : Int) + off = (tgt : Int)) (hne : FP.dcmp x y ≠ none)
    (kt : FP.dcmp x y = some .lt → W p l e R s m args below meth c H locs cells slots Q (F0 m tgt ls rest)) (kf : FP.dcmp x y ≠ some .lt → W p l e R s m args below meth c H locs cells slots Q (F0 m (pc + 4) ls rest)) : W p l e R s m args below meth c H locs cells slots Q (F0 m pc ls (.double y :: .double x :: rest)) := by
  refine lv_dcmp hexec hb hd1 ?_
  exact lv_if_lt hexec hb hd2 ht (fun h => kt ((cv_lt _ _ hne).mp h)) (fun h => kf (fun h2 => h ((cv_lt _ _ hne).mpr h2)))
theorem kd_gt (hexec : p.tables.exec = Jvm.exec) (hb : c.code = cc) (hd1 : decode cc pc = .ok (.dcmp op, 1)) (hd2 : decode cc (pc + 1) = .ok (.ifCond .gt off, 3)) (ht : ((pc + 1 : Nat) : Int) + off = (tgt : Int)) (hne : FP.dcmp x y ≠ none)
    (kt : FP.dcmp x y = some .gt → W p l e R s m args below meth c H locs cells slots Q (F0 m tgt ls rest)) (kf : FP.dcmp x y ≠ some .gt → W p l e R s m args below meth c H locs cells slots Q (F0 m (pc + 4) ls rest)) : W p l e R s m args below meth c H locs cells slots Q (F0 m pc ls (.double y :: .double x :: rest)) := by
  refine lv_dcmp hexec hb hd1 ?_
  exact lv_if_gt hexec hb hd2 ht (fun h => kt ((cv_gt _ _ hne).mp h)) (fun h => kf (fun h2 => h ((cv_gt _ _ hne).mpr h2)))
theorem kd_le (hexec : p.tables.exec = Jvm.exec) (hb : c.code = cc) (hd1 : decode cc pc = .ok (.dcmp op, 1)) (hd2 : decode cc (pc + 1) = .ok (.ifCond .le off, 3)) (ht : ((pc + 1 : Nat) : Int) + off = (tgt : Int)) (hne : FP.dcmp x y ≠ none)
    (kt : FP.dcmp x y ≠ some .gt → W p l e R s m args below meth c H locs cells slots Q (F0 m tgt ls rest)) (kf : FP.dcmp x y = some .gt → W p l e R s m args below meth c H locs cells slots Q (F0 m (pc + 4) ls rest)) : W p l e R s m args below meth c H locs cells slots Q (F0 m pc ls (.double y :: .double x :: rest)) := by
  refine lv_dcmp hexec hb hd1 ?_
  exact lv_if_le hexec hb hd2 ht (fun h => kt ((cv_le _ _ hne).mp h)) (fun h => kf (Classical.byContradiction fun h2 => h ((cv_le _ _ hne).mpr h2)))
end CMP
end CALL
theorem cmp_ne {a b : UInt64} (ha : FP.Core.val64 a ≠ .nan) (hb : FP.Core.val64 b ≠ .nan) : FP.dcmp a b ≠ none := by
  rw [cmp_zv ha hb]; exact fun h => nomatch h
/-! the worlds: a barrel, a row -/
abbrev EB (w z : Int32) (li ag ac su : UInt64) : va_E := .inr (0, [.int w, .int z, .double li, .double ag, .double ac, .double su])
abbrev ER (la : Nat) (n wm df : Int32) (q : UInt64) : va_E := .inr (1, [.ref la, .int n, .int wm, .int df, .double q])
abbrev EL (cA : ClassId) (bs : Nat → Nat) : va_E := .inl (cA, (8, .inr (.inr (.inr (.inr (fun i => some (bs i)))))))
/-- what barrel i holds, out of one table: litres, age, acid, sugar, eight of each -/
abbrev Bk (wd zs : Nat → Int32) (h : Nat → UInt64) (i : Nat) : va_E := EB (wd i) (zs i) (h i) (h (8 + i)) (h (16 + i)) (h (24 + i))
def rowW (r la : Nat) (bs : Nat → Nat) (cA : ClassId) (n wm df : Int32) (q : UInt64) (wd zs : Nat → Int32) (h : Nat → UInt64) : va_W :=
  [(r, ER la n wm df q), (la, EL cA bs), (bs 0, Bk wd zs h 0), (bs 1, Bk wd zs h 1), (bs 2, Bk wd zs h 2), (bs 3, Bk wd zs h 3), (bs 4, Bk wd zs h 4), (bs 5, Bk wd zs h 5), (bs 6, Bk wd zs h 6), (bs 7, Bk wd zs h 7)]
/-- barrel i holds something else -/
def hset (h : Nat → UInt64) (i : Nat) (li ag ac su : UInt64) : Nat → UInt64 := fun k => if k = i then li else if k = 8 + i then ag else if k = 16 + i then ac else if k = 24 + i then su else h k
theorem lt8 {P : Nat → Prop} (h0 : P 0) (h1 : P 1) (h2 : P 2) (h3 : P 3) (h4 : P 4) (h5 : P 5) (h6 : P 6) (h7 : P 7) {i : Nat} (hi : i < 8) : P i := by
  match i, hi with
  | 0, _ => exact h0
  | 1, _ => exact h1
  | 2, _ => exact h2
  | 3, _ => exact h3
  | 4, _ => exact h4
  | 5, _ => exact h5
  | 6, _ => exact h6
  | 7, _ => exact h7
  | i + 8, hi => omega
section ROWW
variable {r la : Nat} {bs : Nat → Nat} {cA : ClassId} {n wm df : Int32} {q : UInt64} {wd zs : Nat → Int32} {h : Nat → UInt64}
theorem rowW_b {i : Nat} (hi : i < 8) : (rowW r la bs cA n wm df q wd zs h)[2 + i]? = some (bs i, Bk wd zs h i) :=
  lt8 (P := fun i => (rowW r la bs cA n wm df q wd zs h)[2 + i]? = some (bs i, Bk wd zs h i)) rfl rfl rfl rfl rfl rfl rfl rfl hi
theorem rowW_sh {i : Nat} (hi : i < 8) (li ag ac su : UInt64) : (rowW r la bs cA n wm df q wd zs h).set (2 + i) (bs i, EB (wd i) (zs i) li ag ac su) = rowW r la bs cA n wm df q wd zs (hset h i li ag ac su) :=
  lt8 (P := fun i => (rowW r la bs cA n wm df q wd zs h).set (2 + i) (bs i, EB (wd i) (zs i) li ag ac su) = rowW r la bs cA n wm df q wd zs (hset h i li ag ac su)) (by simp [rowW, hset]) (by simp [rowW, hset]) (by simp [rowW, hset]) (by simp [rowW, hset]) (by simp [rowW, hset]) (by simp [rowW, hset]) (by simp [rowW, hset]) (by simp [rowW, hset]) hi
theorem rowW_sw {i : Nat} (hi : i < 8) (w : Int32) : (rowW r la bs cA n wm df q wd zs h).set (2 + i) (bs i, EB w (zs i) (h i) (h (8 + i)) (h (16 + i)) (h (24 + i))) = rowW r la bs cA n wm df q (va_up wd i w) zs h :=
  lt8 (P := fun i => (rowW r la bs cA n wm df q wd zs h).set (2 + i) (bs i, EB w (zs i) (h i) (h (8 + i)) (h (16 + i)) (h (24 + i))) = rowW r la bs cA n wm df q (va_up wd i w) zs h) (by simp [rowW, va_up]) (by simp [rowW, va_up]) (by simp [rowW, va_up]) (by simp [rowW, va_up]) (by simp [rowW, va_up]) (by simp [rowW, va_up]) (by simp [rowW, va_up]) (by simp [rowW, va_up]) hi
theorem rowW_sz {i : Nat} (hi : i < 8) (z : Int32) : (rowW r la bs cA n wm df q wd zs h).set (2 + i) (bs i, EB (wd i) z (h i) (h (8 + i)) (h (16 + i)) (h (24 + i))) = rowW r la bs cA n wm df q wd (va_up zs i z) h :=
  lt8 (P := fun i => (rowW r la bs cA n wm df q wd zs h).set (2 + i) (bs i, EB (wd i) z (h i) (h (8 + i)) (h (16 + i)) (h (24 + i))) = rowW r la bs cA n wm df q wd (va_up zs i z) h) (by simp [rowW, va_up]) (by simp [rowW, va_up]) (by simp [rowW, va_up]) (by simp [rowW, va_up]) (by simp [rowW, va_up]) (by simp [rowW, va_up]) (by simp [rowW, va_up]) (by simp [rowW, va_up]) hi
end ROWW
end
section
/-! what one barrel does, in doubles -/
def mixv (v x w y : UInt64) : UInt64 := FP.ddiv (FP.dadd (FP.dmul v x) (FP.dmul w y)) (FP.dadd v w)
/-- mixing w litres into v goes well: no NaN, more than nothing -/
def mixok (v x w y : UInt64) : Prop := vf_n64 (FP.dadd v w) ∧ FP.dcmp (FP.dadd v w) 0 = some .gt ∧ vf_n64 (FP.dmul v x) ∧ vf_n64 (FP.dmul w y) ∧ vf_n64 (FP.dadd (FP.dmul v x) (FP.dmul w y)) ∧ vf_n64 (mixv v x w y)
theorem gt_ne {o : Option Ordering} (h : o = some .gt) : o ≠ none := by rw [h]; exact fun h => nomatch h
theorem lt_ne {o : Option Ordering} (h : o = some .lt) : o ≠ none := by rw [h]; exact fun h => nomatch h
/-- 1: empty; 0: not -/
def emp (li : UInt64) : Int32 := if FP.dcmp li 0 = some .gt then 0 else 1
/-- the share of a wood -/
def shv (w : Int32) : UInt64 := if w = 0 then 4581421828931458171 else if w = 1 then 4584304132692975288 else if w = 2 then 4585204852618449388 else 4582862980812216730
/-- taking out -/
def tkE (w z : Int32) (li ag ac su less : UInt64) : va_E := if FP.dcmp (FP.dsub li less) 0 = some .gt then EB w z (FP.dsub li less) ag ac su else EB w z 0 0 0 0
/-- the acid and the sugar a year on -/
def soA (ac su : UInt64) : UInt64 := if FP.dcmp su 4626322717216342016 = some .gt ∧ FP.dcmp ac 4620693217682128896 = some .lt then FP.dadd ac 4603579539098121011 else if FP.dcmp (FP.dadd ac 4591870180066957722) 4622945017495814144 = some .gt then 4622945017495814144 else FP.dadd ac 4591870180066957722
def soS (ac su : UInt64) : UInt64 := if FP.dcmp su 4626322717216342016 = some .gt ∧ FP.dcmp ac 4620693217682128896 = some .lt then FP.dsub su 4605380978949069210 else su
def sook (ac su : UInt64) : Prop := FP.dcmp su 4626322717216342016 ≠ none ∧ FP.dcmp ac 4620693217682128896 ≠ none ∧ vf_n64 (FP.dadd ac 4603579539098121011) ∧ vf_n64 (FP.dsub su 4605380978949069210) ∧ vf_n64 (FP.dadd ac 4591870180066957722) ∧ FP.dcmp (FP.dadd ac 4591870180066957722) 4622945017495814144 ≠ none
/-- what a year takes of li litres -/
def losv (w : Int32) (li dr : UInt64) : UInt64 := FP.dmul (FP.dmul li (shv w)) dr
/-- the sugar before it sours, at most 70 -/
def thick (su li be : UInt64) : UInt64 := if FP.dcmp (FP.ddiv (FP.dmul su li) be) 4634626229029306368 = some .gt then 4634626229029306368 else FP.ddiv (FP.dmul su li) be
def yearok (w : Int32) (li ag ac su dr : UInt64) : Prop :=
  vf_n64 (FP.dmul li (shv w)) ∧ vf_n64 (losv w li dr) ∧ vf_n64 (FP.dsub li (losv w li dr)) ∧ FP.dcmp (FP.dsub li (losv w li dr)) 0 = some .gt ∧ vf_n64 (FP.dmul su li) ∧ vf_n64 (FP.ddiv (FP.dmul su li) (FP.dsub li (losv w li dr))) ∧ FP.dcmp (FP.ddiv (FP.dmul su li) (FP.dsub li (losv w li dr))) 4634626229029306368 ≠ none ∧ sook ac (thick su li (FP.dsub li (losv w li dr))) ∧ vf_n64 (FP.dadd ag 4607182418800017408)
/-- the size of a difference -/
def absv (x : UInt64) : UInt64 := if FP.dcmp x 0 = some .lt then FP.dneg x else x
def tasv (li ag ac su : UInt64) : UInt64 := if FP.dcmp li 0 = some .gt then FP.dsub (FP.dadd (FP.dmul 4602678819172646912 ag) (FP.dmul 4605380978949069210 su)) (FP.dmul 4613937818241073152 (absv (FP.dsub ac 4618441417868443648))) else 0
def tasok (ag ac su : UInt64) : Prop := vf_n64 (FP.dsub ac 4618441417868443648) ∧ FP.dcmp (FP.dsub ac 4618441417868443648) 0 ≠ none ∧ vf_n64 (FP.dmul 4602678819172646912 ag) ∧ vf_n64 (FP.dmul 4605380978949069210 su) ∧ vf_n64 (FP.dadd (FP.dmul 4602678819172646912 ag) (FP.dmul 4605380978949069210 su)) ∧ vf_n64 (FP.dmul 4613937818241073152 (absv (FP.dsub ac 4618441417868443648))) ∧ vf_n64 (FP.dsub (FP.dadd (FP.dmul 4602678819172646912 ag) (FP.dmul 4605380978949069210 su)) (FP.dmul 4613937818241073152 (absv (FP.dsub ac 4618441417868443648))))
end
section
/-! VinegarLoft$Barrel: its methods (laid by wip/p23/prog/x0.py) -/
theorem by_contra_sw {k : Int32} (e0 : ¬ k = 0) (e1 : ¬ k = 1) (e2 : ¬ k = 2) : k.toInt < 0 ∨ 2 < k.toInt := by
  refine Classical.byContradiction fun h => ?_
  have h1 : k.toInt = 0 ∨ k.toInt = 1 ∨ k.toInt = 2 := by omega
  rcases h1 with h1 | h1 | h1
  · exact e0 (Int32.toInt.inj (by rw [h1]; rfl))
  · exact e1 (Int32.toInt.inj (by rw [h1]; rfl))
  · exact e2 (Int32.toInt.inj (by rw [h1]; rfl))
set_option maxHeartbeats 4000000 in
set_option maxRecDepth 100000 in
/-- Barrel(): nothing changes -/
theorem metX0_init (l : Launch) (D : va_G) (sz : Nat) (a : Nat) (w z : Int32) (li ag ac su : UInt64)  : Met l yX0_init wsX0_init { frames := 1, cells := 0, slots := 0, locals := 12 } (Pm D [] [.ref a] ([(a, .inr (0, [.int w, .int z, .double li, .double ag, .double ac, .double su]))]) sz) (va_Qv (fun (_ : Unit) => True) (Bm D [] (va_A ([(a, .inr (0, [.int w, .int z, .double li, .double ag, .double ac, .double su]))]) sz) ([(a, .inr (0, [.int w, .int z, .double li, .double ag, .double ac, .double su]))])) (va_A ([(a, .inr (0, [.int w, .int z, .double li, .double ag, .double ac, .double su]))]) sz)) 0 0 (va_A ([(a, .inr (0, [.int w, .int z, .double li, .double ag, .double ac, .double su]))]) sz) := by
  refine Met.ofW (cc := cX0_init) (maxL := 1) (ret := none) (by decide) rfl ?_
  intro p e s m args below meth c s₁ B hml hv
  obtain ⟨rfl, hsz, hP, hK, hD0⟩ := hv
  have hx := B.exec
  have hb := B.bytes
  have hr := B.returns
  have hts := atoms_spec (ws := wsX0_init) B.pre
  have hown : s.vm.findClass RX0 = some m.cls := findClass_of_methodNamed B.named
  have hlocks := B.notSynchronized
  have hin : meth.name = "<init>" := (name_of_methodNamed B.named B.method).1
  subst hsz
  have hD := hD0.self (sz := s.heap.size)
  generalize hAe : va_A ([(a, .inr (0, [.int w, .int z, .double li, .double ag, .double ac, .double su]))]) s.heap.size = A at hD ⊢
  have hA : ∀ q : Nat, s.heap.size ≤ q → A q := fun q h => by rw [← hAe]; exact Or.inr h
  refine kW_H (fun H hH => ?_)
  have hP : va_P D vwCl ([(a, .inr (0, [.int w, .int z, .double li, .double ag, .double ac, .double su]))]) H := by rw [hH]; exact hP
  have hS : va_S A s.heap H [] := by rw [hH]; exact va_S.rf
  have hl := lv_entry ([.ref a]) (n := 1) (Nat.le_of_ble_eq_true rfl)
  rw [lg_entry_eq]
  generalize (lg_sl ([.ref a]) ++ List.replicate (1 - (lg_sl ([.ref a])).length) Slot.unset).toArray = ls at hl ⊢
  have hl : lv_has ls 1 [(0, .ref a)] := hl
  refine lv_aload_n hx hb dX0_init_0 rfl (lv_at hl 0 rfl) ?_
  refine W.objInit hx hb hown (hts (.methodLink RX0 1 objectInit) (by decide +kernel)) (hts (.instanceMethod objectInit) (by decide +kernel)) (hts (.code objectInit ⟨#[0xb1]⟩ 1 none) (by decide +kernel)) rfl (by rw [hml]; exact hl.1) rfl dX0_init_1 (Nat.le_of_ble_eq_true rfl) (Nat.le_of_ble_eq_true rfl) ?_
  refine W.eq (g2 := F0 m 4 ls []) rfl ?_
  exact W.vret hx hb hr (fun t ht hW => ⟨⟨(), rfl, trivial, by rw [ht]; exact hP, va_K.moved hW.alike hK, hD⟩, hS.F ht⟩) hS.2.2 dX0_init_4
set_option maxHeartbeats 4000000 in
set_option maxRecDepth 100000 in
/-- isEmpty() -/
theorem metX0_isEmpty (l : Launch) (D : va_G) (a : Nat) (w z : Int32) (li ag ac su : UInt64) (h0 : FP.dcmp li 0 ≠ none) : Met l yX0_isEmpty wsX0_isEmpty { frames := 0, cells := 0, slots := 0, locals := 0 } (Pr D [] [.ref a] ([(a, .inr (0, [.int w, .int z, .double li, .double ag, .double ac, .double su]))])) (vp_Si (fun r : Int32 => r = emp li)) 0 0 (fun _ => False) := by
  refine Met.ofW (cc := cX0_isEmpty) (maxL := 1) (ret := (some .boolean)) (by decide) rfl ?_
  intro p e s m args below meth c s₁ B hml hv
  obtain ⟨rfl, hP, hK⟩ := hv
  have hx := B.exec
  have hb := B.bytes
  have hr := B.returns
  have hts := atoms_spec (ws := wsX0_isEmpty) B.pre
  have hown : s.vm.findClass RX0 = some m.cls := findClass_of_methodNamed B.named
  have hlocks := B.notSynchronized
  have hl := lv_entry ([.ref a]) (n := 1) (Nat.le_of_ble_eq_true rfl)
  rw [lg_entry_eq]
  generalize (lg_sl ([.ref a]) ++ List.replicate (1 - (lg_sl ([.ref a])).length) Slot.unset).toArray = ls at hl ⊢
  have hl : lv_has ls 1 [(0, .ref a)] := hl
  refine lv_aload_n hx hb dX0_isEmpty_0 rfl (lv_at hl 0 rfl) ?_
  refine va_get (D := D) (ci := 0) (v := .double li) (C := RX0) (T := TX0) (N := 6) hx hb hts (by decide +kernel) hown hK hP (0) rfl rfl 2 (by decide) (hts (.fieldLink RX0 16 "VinegarLoft$Barrel" "litres" "D") (by decide +kernel)) (fun _ h9 => h9) rfl dX0_isEmpty_1 ?_
  refine kd_0 hx hb dX0_isEmpty_4 ?_
  refine kd_gt (tgt := 13) hx hb dX0_isEmpty_5 dX0_isEmpty_6 (by decide) h0 (fun c5 => ?_) (fun c5 => ?_)
  · refine lv_iconst (v := 0) hx hb dX0_isEmpty_13 (by decide) ?_
    exact W.zret hx hb hr (by first | rfl | decide) (fun t ht hW => ⟨_, rfl, by unfold emp; rw [if_pos c5], ht⟩) (fun q hq => absurd hq List.not_mem_nil) dX0_isEmpty_14
  · refine lv_iconst (v := 1) hx hb dX0_isEmpty_9 (by decide) ?_
    refine lv_goto (tgt := 14) hx hb dX0_isEmpty_10 (by decide) ?_
    exact W.zret hx hb hr (by first | rfl | decide) (fun t ht hW => ⟨_, rfl, by unfold emp; rw [if_neg c5], ht⟩) (fun q hq => absurd hq List.not_mem_nil) dX0_isEmpty_14
set_option maxHeartbeats 4000000 in
set_option maxRecDepth 100000 in
/-- clear(): zeros -/
theorem metX0_clear (l : Launch) (D : va_G) (sz : Nat) (a : Nat) (w z : Int32) (li ag ac su : UInt64)  : Met l yX0_clear wsX0_clear { frames := 0, cells := 0, slots := 0, locals := 0 } (Pm D [] [.ref a] ([(a, .inr (0, [.int w, .int z, .double li, .double ag, .double ac, .double su]))]) sz) (va_Qv (fun (_ : Unit) => True) (Bm D [] (va_A ([(a, .inr (0, [.int w, .int z, .double li, .double ag, .double ac, .double su]))]) sz) ([(a, .inr (0, [.int w, .int z, .double 0, .double 0, .double 0, .double 0]))])) (va_A ([(a, .inr (0, [.int w, .int z, .double li, .double ag, .double ac, .double su]))]) sz)) 0 0 (va_A ([(a, .inr (0, [.int w, .int z, .double li, .double ag, .double ac, .double su]))]) sz) := by
  refine Met.ofW (cc := cX0_clear) (maxL := 1) (ret := none) (by decide) rfl ?_
  intro p e s m args below meth c s₁ B hml hv
  obtain ⟨rfl, hsz, hP, hK, hD0⟩ := hv
  have hx := B.exec
  have hb := B.bytes
  have hr := B.returns
  have hts := atoms_spec (ws := wsX0_clear) B.pre
  have hown : s.vm.findClass RX0 = some m.cls := findClass_of_methodNamed B.named
  have hlocks := B.notSynchronized
  subst hsz
  have hD := hD0.self (sz := s.heap.size)
  generalize hAe : va_A ([(a, .inr (0, [.int w, .int z, .double li, .double ag, .double ac, .double su]))]) s.heap.size = A at hD ⊢
  have hA : ∀ q : Nat, s.heap.size ≤ q → A q := fun q h => by rw [← hAe]; exact Or.inr h
  refine kW_H (fun H hH => ?_)
  have hP : va_P D vwCl ([(a, .inr (0, [.int w, .int z, .double li, .double ag, .double ac, .double su]))]) H := by rw [hH]; exact hP
  have hS : va_S A s.heap H [] := by rw [hH]; exact va_S.rf
  have hl := lv_entry ([.ref a]) (n := 1) (Nat.le_of_ble_eq_true rfl)
  rw [lg_entry_eq]
  generalize (lg_sl ([.ref a]) ++ List.replicate (1 - (lg_sl ([.ref a])).length) Slot.unset).toArray = ls at hl ⊢
  have hl : lv_has ls 1 [(0, .ref a)] := hl
  refine lv_aload_n hx hb dX0_clear_0 rfl (lv_at hl 0 rfl) ?_
  refine kd_0 hx hb dX0_clear_1 ?_
  refine va_put (D := D) (ci := 0) (v := .double 0) (ty := .double) (C := RX0) (T := TX0) (N := 6) hx hb hts (by decide +kernel) tyX0 tyX0_ok nmX0 hown hK hP hD hS (0) rfl rfl 2 (by decide) (hts (.fieldLink RX0 16 "VinegarLoft$Barrel" "litres" "D") (by decide +kernel)) (fun _ h9 => h9) rfl (by decide +kernel) rfl rfl (Nat.le_of_ble_eq_true rfl) dX0_clear_2 (fun H locs hP hD hS => ?_)
  have hP : va_P D vwCl [(a, .inr (0, [.int w, .int z, .double 0, .double ag, .double ac, .double su]))] H := hP
  have hD : va_D A [(a, .inr (0, [.int w, .int z, .double 0, .double ag, .double ac, .double su]))] := hD
  refine lv_aload_n hx hb dX0_clear_5 rfl (lv_at hl 0 rfl) ?_
  refine kd_0 hx hb dX0_clear_6 ?_
  refine va_put (D := D) (ci := 0) (v := .double 0) (ty := .double) (C := RX0) (T := TX0) (N := 6) hx hb hts (by decide +kernel) tyX0 tyX0_ok nmX0 hown hK hP hD hS (0) rfl rfl 3 (by decide) (hts (.fieldLink RX0 20 "VinegarLoft$Barrel" "age" "D") (by decide +kernel)) (fun _ h9 => h9) rfl (by decide +kernel) rfl rfl (Nat.le_of_ble_eq_true rfl) dX0_clear_7 (fun H locs hP hD hS => ?_)
  have hP : va_P D vwCl [(a, .inr (0, [.int w, .int z, .double 0, .double 0, .double ac, .double su]))] H := hP
  have hD : va_D A [(a, .inr (0, [.int w, .int z, .double 0, .double 0, .double ac, .double su]))] := hD
  refine lv_aload_n hx hb dX0_clear_10 rfl (lv_at hl 0 rfl) ?_
  refine kd_0 hx hb dX0_clear_11 ?_
  refine va_put (D := D) (ci := 0) (v := .double 0) (ty := .double) (C := RX0) (T := TX0) (N := 6) hx hb hts (by decide +kernel) tyX0 tyX0_ok nmX0 hown hK hP hD hS (0) rfl rfl 4 (by decide) (hts (.fieldLink RX0 23 "VinegarLoft$Barrel" "acid" "D") (by decide +kernel)) (fun _ h9 => h9) rfl (by decide +kernel) rfl rfl (Nat.le_of_ble_eq_true rfl) dX0_clear_12 (fun H locs hP hD hS => ?_)
  have hP : va_P D vwCl [(a, .inr (0, [.int w, .int z, .double 0, .double 0, .double 0, .double su]))] H := hP
  have hD : va_D A [(a, .inr (0, [.int w, .int z, .double 0, .double 0, .double 0, .double su]))] := hD
  refine lv_aload_n hx hb dX0_clear_15 rfl (lv_at hl 0 rfl) ?_
  refine kd_0 hx hb dX0_clear_16 ?_
  refine va_put (D := D) (ci := 0) (v := .double 0) (ty := .double) (C := RX0) (T := TX0) (N := 6) hx hb hts (by decide +kernel) tyX0 tyX0_ok nmX0 hown hK hP hD hS (0) rfl rfl 5 (by decide) (hts (.fieldLink RX0 26 "VinegarLoft$Barrel" "sugar" "D") (by decide +kernel)) (fun _ h9 => h9) rfl (by decide +kernel) rfl rfl (Nat.le_of_ble_eq_true rfl) dX0_clear_17 (fun H locs hP hD hS => ?_)
  have hP : va_P D vwCl [(a, .inr (0, [.int w, .int z, .double 0, .double 0, .double 0, .double 0]))] H := hP
  have hD : va_D A [(a, .inr (0, [.int w, .int z, .double 0, .double 0, .double 0, .double 0]))] := hD
  exact W.vret hx hb hr (fun t ht hW => ⟨⟨(), rfl, trivial, by rw [ht]; exact hP, va_K.moved hW.alike hK, hD⟩, hS.F ht⟩) hS.2.2 dX0_clear_20
set_option maxHeartbeats 4000000 in
set_option maxRecDepth 100000 in
/-- mixed(..), where there is something -/
theorem metX0_mixed (l : Launch) (D : va_G) (v x w y : UInt64) (h : mixok v x w y) : Met l yX0_mixed wsX0_mixed { frames := 0, cells := 0, slots := 0, locals := 0 } (Pr D [] [.double v, .double x, .double w, .double y] ([])) (vp_Sd (fun r : UInt64 => r = mixv v x w y)) 0 0 (fun _ => False) := by
  refine Met.ofW (cc := cX0_mixed) (maxL := 10) (ret := (some .double)) (by decide) rfl ?_
  intro p e s m args below meth c s₁ B hml hv
  obtain ⟨rfl, hP, hK⟩ := hv
  have hx := B.exec
  have hb := B.bytes
  have hr := B.returns
  have hts := atoms_spec (ws := wsX0_mixed) B.pre
  have hown : s.vm.findClass RX0 = some m.cls := findClass_of_methodNamed B.named
  have hlocks := B.notSynchronized
  have hl := lv_entry ([.double v, .double x, .double w, .double y]) (n := 10) (Nat.le_of_ble_eq_true rfl)
  rw [lg_entry_eq]
  generalize (lg_sl ([.double v, .double x, .double w, .double y]) ++ List.replicate (10 - (lg_sl ([.double v, .double x, .double w, .double y])).length) Slot.unset).toArray = ls at hl ⊢
  have hl : lv_has ls 10 [(0, .double v), (2, .double x), (4, .double w), (6, .double y)] := hl
  obtain ⟨h1, h2, h3, h4, h5, h6⟩ := h
  refine lv_dload_n hx hb dX0_mixed_0 rfl (lv_at hl 0 rfl) ?_
  refine lv_dload hx hb dX0_mixed_1 (lv_at hl 2 rfl) ?_
  refine lv_dadd hx hb dX0_mixed_3 h1 ?_
  refine lv_dstore (lv' := [(8, .double (FP.dadd v w)), (0, .double v), (2, .double x), (4, .double w), (6, .double y)]) hx hb dX0_mixed_4 hl (by decide) rfl (fun ls hl => ?_)
  refine lv_dload hx hb dX0_mixed_6 (lv_at hl 0 rfl) ?_
  refine kd_0 hx hb dX0_mixed_8 ?_
  refine kd_le (tgt := 28) hx hb dX0_mixed_9 dX0_mixed_10 (by decide) (gt_ne h2) (fun c9 => absurd c9 (fun h9 => h9 h2)) (fun c9 => ?_)
  refine lv_dload_n hx hb dX0_mixed_13 rfl (lv_at hl 1 rfl) ?_
  refine lv_dload_n hx hb dX0_mixed_14 rfl (lv_at hl 2 rfl) ?_
  refine lv_dmul hx hb dX0_mixed_15 h3 ?_
  refine lv_dload hx hb dX0_mixed_16 (lv_at hl 3 rfl) ?_
  refine lv_dload hx hb dX0_mixed_18 (lv_at hl 4 rfl) ?_
  refine lv_dmul hx hb dX0_mixed_20 h4 ?_
  refine lv_dadd hx hb dX0_mixed_21 h5 ?_
  refine lv_dload hx hb dX0_mixed_22 (lv_at hl 0 rfl) ?_
  refine lv_ddiv hx hb dX0_mixed_24 h6 ?_
  refine lv_goto (tgt := 29) hx hb dX0_mixed_25 (by decide) ?_
  exact W.dret hx hb hr (fun t ht hW => ⟨_, rfl, rfl, ht⟩) (fun q hq => absurd hq List.not_mem_nil) dX0_mixed_29
set_option maxHeartbeats 4000000 in
set_option maxRecDepth 100000 in
/-- mixIn(..) -/
theorem metX0_mixIn (l : Launch) (D : va_G) (sz : Nat) (a : Nat) (w z : Int32) (li ag ac su : UInt64) (more ia ib ic : UInt64) (h1 : mixok li ag more ia) (h2 : mixok li ac more ib) (h3 : mixok li su more ic) : Met l yX0_mixIn wsX0_mixIn { frames := 1, cells := 0, slots := 0, locals := 29 } (Pm D [] [.ref a, .double more, .double ia, .double ib, .double ic] ([(a, .inr (0, [.int w, .int z, .double li, .double ag, .double ac, .double su]))]) sz) (va_Qv (fun (_ : Unit) => True) (Bm D [] (va_A ([(a, .inr (0, [.int w, .int z, .double li, .double ag, .double ac, .double su]))]) sz) ([(a, .inr (0, [.int w, .int z, .double (FP.dadd li more), .double (mixv li ag more ia), .double (mixv li ac more ib), .double (mixv li su more ic)]))])) (va_A ([(a, .inr (0, [.int w, .int z, .double li, .double ag, .double ac, .double su]))]) sz)) 0 0 (va_A ([(a, .inr (0, [.int w, .int z, .double li, .double ag, .double ac, .double su]))]) sz) := by
  refine Met.ofW (cc := cX0_mixIn) (maxL := 9) (ret := none) (by decide) rfl ?_
  intro p e s m args below meth c s₁ B hml hv
  obtain ⟨rfl, hsz, hP, hK, hD0⟩ := hv
  have hx := B.exec
  have hb := B.bytes
  have hr := B.returns
  have hts := atoms_spec (ws := wsX0_mixIn) B.pre
  have hown : s.vm.findClass RX0 = some m.cls := findClass_of_methodNamed B.named
  have hlocks := B.notSynchronized
  subst hsz
  have hD := hD0.self (sz := s.heap.size)
  generalize hAe : va_A ([(a, .inr (0, [.int w, .int z, .double li, .double ag, .double ac, .double su]))]) s.heap.size = A at hD ⊢
  have hA : ∀ q : Nat, s.heap.size ≤ q → A q := fun q h => by rw [← hAe]; exact Or.inr h
  refine kW_H (fun H hH => ?_)
  have hP : va_P D vwCl ([(a, .inr (0, [.int w, .int z, .double li, .double ag, .double ac, .double su]))]) H := by rw [hH]; exact hP
  have hS : va_S A s.heap H [] := by rw [hH]; exact va_S.rf
  have hl := lv_entry ([.ref a, .double more, .double ia, .double ib, .double ic]) (n := 9) (Nat.le_of_ble_eq_true rfl)
  rw [lg_entry_eq]
  generalize (lg_sl ([.ref a, .double more, .double ia, .double ib, .double ic]) ++ List.replicate (9 - (lg_sl ([.ref a, .double more, .double ia, .double ib, .double ic])).length) Slot.unset).toArray = ls at hl ⊢
  have hl : lv_has ls 9 [(0, .ref a), (1, .double more), (3, .double ia), (5, .double ib), (7, .double ic)] := hl
  refine lv_aload_n hx hb dX0_mixIn_0 rfl (lv_at hl 0 rfl) ?_
  refine lv_aload_n hx hb dX0_mixIn_1 rfl (lv_at hl 0 rfl) ?_
  refine va_get (D := D) (ci := 0) (v := .double li) (C := RX0) (T := TX0) (N := 6) hx hb hts (by decide +kernel) hown hK hP (0) rfl rfl 2 (by decide) (hts (.fieldLink RX0 16 "VinegarLoft$Barrel" "litres" "D") (by decide +kernel)) (fun _ h9 => h9) rfl dX0_mixIn_2 ?_
  refine lv_aload_n hx hb dX0_mixIn_5 rfl (lv_at hl 0 rfl) ?_
  refine va_get (D := D) (ci := 0) (v := .double ag) (C := RX0) (T := TX0) (N := 6) hx hb hts (by decide +kernel) hown hK hP (0) rfl rfl 3 (by decide) (hts (.fieldLink RX0 20 "VinegarLoft$Barrel" "age" "D") (by decide +kernel)) (fun _ h9 => h9) rfl dX0_mixIn_6 ?_
  refine lv_dload_n hx hb dX0_mixIn_9 rfl (lv_at hl 1 rfl) ?_
  refine lv_dload_n hx hb dX0_mixIn_10 rfl (lv_at hl 2 rfl) ?_
  refine kr_d (W.runS (As := [.double li, .double ag, .double more, .double ia]) (rest := [.ref a]) ⟨hx, hb, hml, hown, hts⟩ (metX0_mixed l D li ag more ia h1) (va_cwS 4 hts gX0_mixIn_X0_mixed rfl rfl rfl (by decide +kernel) ⟨Nat.le_of_ble_eq_true rfl, Nat.le_of_ble_eq_true rfl⟩) (prS (ws := []) (tys := []) (fun k q h => by simp at h) (hK.sub [] rfl)) rfl rfl hl.1 rfl (lv_room (Nat.le_of_ble_eq_true rfl)) dX0_mixIn_11 ⟨Nat.le_of_ble_eq_true rfl, Nat.le_of_ble_eq_true rfl⟩) ?_
  refine va_put (D := D) (ci := 0) (v := .double (mixv li ag more ia)) (ty := .double) (C := RX0) (T := TX0) (N := 6) hx hb hts (by decide +kernel) tyX0 tyX0_ok nmX0 hown hK hP hD hS (0) rfl rfl 3 (by decide) (hts (.fieldLink RX0 20 "VinegarLoft$Barrel" "age" "D") (by decide +kernel)) (fun _ h9 => h9) rfl (by decide +kernel) rfl rfl (Nat.le_of_ble_eq_true rfl) dX0_mixIn_14 (fun H locs hP hD hS => ?_)
  have hP : va_P D vwCl [(a, .inr (0, [.int w, .int z, .double li, .double (mixv li ag more ia), .double ac, .double su]))] H := hP
  have hD : va_D A [(a, .inr (0, [.int w, .int z, .double li, .double (mixv li ag more ia), .double ac, .double su]))] := hD
  refine lv_aload_n hx hb dX0_mixIn_17 rfl (lv_at hl 0 rfl) ?_
  refine lv_aload_n hx hb dX0_mixIn_18 rfl (lv_at hl 0 rfl) ?_
  refine va_get (D := D) (ci := 0) (v := .double li) (C := RX0) (T := TX0) (N := 6) hx hb hts (by decide +kernel) hown hK hP (0) rfl rfl 2 (by decide) (hts (.fieldLink RX0 16 "VinegarLoft$Barrel" "litres" "D") (by decide +kernel)) (fun _ h9 => h9) rfl dX0_mixIn_19 ?_
  refine lv_aload_n hx hb dX0_mixIn_22 rfl (lv_at hl 0 rfl) ?_
  refine va_get (D := D) (ci := 0) (v := .double ac) (C := RX0) (T := TX0) (N := 6) hx hb hts (by decide +kernel) hown hK hP (0) rfl rfl 4 (by decide) (hts (.fieldLink RX0 23 "VinegarLoft$Barrel" "acid" "D") (by decide +kernel)) (fun _ h9 => h9) rfl dX0_mixIn_23 ?_
  refine lv_dload_n hx hb dX0_mixIn_26 rfl (lv_at hl 1 rfl) ?_
  refine lv_dload hx hb dX0_mixIn_27 (lv_at hl 3 rfl) ?_
  refine kr_d (W.runS (As := [.double li, .double ac, .double more, .double ib]) (rest := [.ref a]) ⟨hx, hb, hml, hown, hts⟩ (metX0_mixed l D li ac more ib h2) (va_cwS 4 hts gX0_mixIn_X0_mixed rfl rfl rfl (by decide +kernel) ⟨Nat.le_of_ble_eq_true rfl, Nat.le_of_ble_eq_true rfl⟩) (prS (ws := []) (tys := []) (fun k q h => by simp at h) (hK.sub [] rfl)) rfl rfl hl.1 rfl (lv_room (Nat.le_of_ble_eq_true rfl)) dX0_mixIn_29 ⟨Nat.le_of_ble_eq_true rfl, Nat.le_of_ble_eq_true rfl⟩) ?_
  refine va_put (D := D) (ci := 0) (v := .double (mixv li ac more ib)) (ty := .double) (C := RX0) (T := TX0) (N := 6) hx hb hts (by decide +kernel) tyX0 tyX0_ok nmX0 hown hK hP hD hS (0) rfl rfl 4 (by decide) (hts (.fieldLink RX0 23 "VinegarLoft$Barrel" "acid" "D") (by decide +kernel)) (fun _ h9 => h9) rfl (by decide +kernel) rfl rfl (Nat.le_of_ble_eq_true rfl) dX0_mixIn_32 (fun H locs hP hD hS => ?_)
  have hP : va_P D vwCl [(a, .inr (0, [.int w, .int z, .double li, .double (mixv li ag more ia), .double (mixv li ac more ib), .double su]))] H := hP
  have hD : va_D A [(a, .inr (0, [.int w, .int z, .double li, .double (mixv li ag more ia), .double (mixv li ac more ib), .double su]))] := hD
  refine lv_aload_n hx hb dX0_mixIn_35 rfl (lv_at hl 0 rfl) ?_
  refine lv_aload_n hx hb dX0_mixIn_36 rfl (lv_at hl 0 rfl) ?_
  refine va_get (D := D) (ci := 0) (v := .double li) (C := RX0) (T := TX0) (N := 6) hx hb hts (by decide +kernel) hown hK hP (0) rfl rfl 2 (by decide) (hts (.fieldLink RX0 16 "VinegarLoft$Barrel" "litres" "D") (by decide +kernel)) (fun _ h9 => h9) rfl dX0_mixIn_37 ?_
  refine lv_aload_n hx hb dX0_mixIn_40 rfl (lv_at hl 0 rfl) ?_
  refine va_get (D := D) (ci := 0) (v := .double su) (C := RX0) (T := TX0) (N := 6) hx hb hts (by decide +kernel) hown hK hP (0) rfl rfl 5 (by decide) (hts (.fieldLink RX0 26 "VinegarLoft$Barrel" "sugar" "D") (by decide +kernel)) (fun _ h9 => h9) rfl dX0_mixIn_41 ?_
  refine lv_dload_n hx hb dX0_mixIn_44 rfl (lv_at hl 1 rfl) ?_
  refine lv_dload hx hb dX0_mixIn_45 (lv_at hl 4 rfl) ?_
  refine kr_d (W.runS (As := [.double li, .double su, .double more, .double ic]) (rest := [.ref a]) ⟨hx, hb, hml, hown, hts⟩ (metX0_mixed l D li su more ic h3) (va_cwS 4 hts gX0_mixIn_X0_mixed rfl rfl rfl (by decide +kernel) ⟨Nat.le_of_ble_eq_true rfl, Nat.le_of_ble_eq_true rfl⟩) (prS (ws := []) (tys := []) (fun k q h => by simp at h) (hK.sub [] rfl)) rfl rfl hl.1 rfl (lv_room (Nat.le_of_ble_eq_true rfl)) dX0_mixIn_47 ⟨Nat.le_of_ble_eq_true rfl, Nat.le_of_ble_eq_true rfl⟩) ?_
  refine va_put (D := D) (ci := 0) (v := .double (mixv li su more ic)) (ty := .double) (C := RX0) (T := TX0) (N := 6) hx hb hts (by decide +kernel) tyX0 tyX0_ok nmX0 hown hK hP hD hS (0) rfl rfl 5 (by decide) (hts (.fieldLink RX0 26 "VinegarLoft$Barrel" "sugar" "D") (by decide +kernel)) (fun _ h9 => h9) rfl (by decide +kernel) rfl rfl (Nat.le_of_ble_eq_true rfl) dX0_mixIn_50 (fun H locs hP hD hS => ?_)
  have hP : va_P D vwCl [(a, .inr (0, [.int w, .int z, .double li, .double (mixv li ag more ia), .double (mixv li ac more ib), .double (mixv li su more ic)]))] H := hP
  have hD : va_D A [(a, .inr (0, [.int w, .int z, .double li, .double (mixv li ag more ia), .double (mixv li ac more ib), .double (mixv li su more ic)]))] := hD
  refine lv_aload_n hx hb dX0_mixIn_53 rfl (lv_at hl 0 rfl) ?_
  refine lv_aload_n hx hb dX0_mixIn_54 rfl (lv_at hl 0 rfl) ?_
  refine va_get (D := D) (ci := 0) (v := .double li) (C := RX0) (T := TX0) (N := 6) hx hb hts (by decide +kernel) hown hK hP (0) rfl rfl 2 (by decide) (hts (.fieldLink RX0 16 "VinegarLoft$Barrel" "litres" "D") (by decide +kernel)) (fun _ h9 => h9) rfl dX0_mixIn_55 ?_
  refine lv_dload_n hx hb dX0_mixIn_58 rfl (lv_at hl 1 rfl) ?_
  refine lv_dadd hx hb dX0_mixIn_59 h1.1 ?_
  refine va_put (D := D) (ci := 0) (v := .double (FP.dadd li more)) (ty := .double) (C := RX0) (T := TX0) (N := 6) hx hb hts (by decide +kernel) tyX0 tyX0_ok nmX0 hown hK hP hD hS (0) rfl rfl 2 (by decide) (hts (.fieldLink RX0 16 "VinegarLoft$Barrel" "litres" "D") (by decide +kernel)) (fun _ h9 => h9) rfl (by decide +kernel) rfl rfl (Nat.le_of_ble_eq_true rfl) dX0_mixIn_60 (fun H locs hP hD hS => ?_)
  have hP : va_P D vwCl [(a, .inr (0, [.int w, .int z, .double (FP.dadd li more), .double (mixv li ag more ia), .double (mixv li ac more ib), .double (mixv li su more ic)]))] H := hP
  have hD : va_D A [(a, .inr (0, [.int w, .int z, .double (FP.dadd li more), .double (mixv li ag more ia), .double (mixv li ac more ib), .double (mixv li su more ic)]))] := hD
  exact W.vret hx hb hr (fun t ht hW => ⟨⟨(), rfl, trivial, by rw [ht]; exact hP, va_K.moved hW.alike hK, hD⟩, hS.F ht⟩) hS.2.2 dX0_mixIn_63
set_option maxHeartbeats 4000000 in
set_option maxRecDepth 100000 in
/-- takeOut(less) -/
theorem metX0_takeOut (l : Launch) (D : va_G) (sz : Nat) (a : Nat) (w z : Int32) (li ag ac su : UInt64) (less : UInt64) (h1 : vf_n64 (FP.dsub li less)) (h2 : FP.dcmp (FP.dsub li less) 0 ≠ none) : Met l yX0_takeOut wsX0_takeOut { frames := 1, cells := 0, slots := 0, locals := 20 } (Pm D [] [.ref a, .double less] ([(a, .inr (0, [.int w, .int z, .double li, .double ag, .double ac, .double su]))]) sz) (va_Qv (fun (_ : Unit) => True) (Bm D [] (va_A ([(a, .inr (0, [.int w, .int z, .double li, .double ag, .double ac, .double su]))]) sz) ([(a, tkE w z li ag ac su less)])) (va_A ([(a, .inr (0, [.int w, .int z, .double li, .double ag, .double ac, .double su]))]) sz)) 0 0 (va_A ([(a, .inr (0, [.int w, .int z, .double li, .double ag, .double ac, .double su]))]) sz) := by
  refine Met.ofW (cc := cX0_takeOut) (maxL := 3) (ret := none) (by decide) rfl ?_
  intro p e s m args below meth c s₁ B hml hv
  obtain ⟨rfl, hsz, hP, hK, hD0⟩ := hv
  have hx := B.exec
  have hb := B.bytes
  have hr := B.returns
  have hts := atoms_spec (ws := wsX0_takeOut) B.pre
  have hown : s.vm.findClass RX0 = some m.cls := findClass_of_methodNamed B.named
  have hlocks := B.notSynchronized
  subst hsz
  have hD := hD0.self (sz := s.heap.size)
  generalize hAe : va_A ([(a, .inr (0, [.int w, .int z, .double li, .double ag, .double ac, .double su]))]) s.heap.size = A at hD ⊢
  have hA : ∀ q : Nat, s.heap.size ≤ q → A q := fun q h => by rw [← hAe]; exact Or.inr h
  refine kW_H (fun H hH => ?_)
  have hP : va_P D vwCl ([(a, .inr (0, [.int w, .int z, .double li, .double ag, .double ac, .double su]))]) H := by rw [hH]; exact hP
  have hS : va_S A s.heap H [] := by rw [hH]; exact va_S.rf
  have hl := lv_entry ([.ref a, .double less]) (n := 3) (Nat.le_of_ble_eq_true rfl)
  rw [lg_entry_eq]
  generalize (lg_sl ([.ref a, .double less]) ++ List.replicate (3 - (lg_sl ([.ref a, .double less])).length) Slot.unset).toArray = ls at hl ⊢
  have hl : lv_has ls 3 [(0, .ref a), (1, .double less)] := hl
  refine lv_aload_n hx hb dX0_takeOut_0 rfl (lv_at hl 0 rfl) ?_
  refine lv_aload_n hx hb dX0_takeOut_1 rfl (lv_at hl 0 rfl) ?_
  refine va_get (D := D) (ci := 0) (v := .double li) (C := RX0) (T := TX0) (N := 6) hx hb hts (by decide +kernel) hown hK hP (0) rfl rfl 2 (by decide) (hts (.fieldLink RX0 16 "VinegarLoft$Barrel" "litres" "D") (by decide +kernel)) (fun _ h9 => h9) rfl dX0_takeOut_2 ?_
  refine lv_dload_n hx hb dX0_takeOut_5 rfl (lv_at hl 1 rfl) ?_
  refine lv_dsub hx hb dX0_takeOut_6 h1 ?_
  refine va_put (D := D) (ci := 0) (v := .double (FP.dsub li less)) (ty := .double) (C := RX0) (T := TX0) (N := 6) hx hb hts (by decide +kernel) tyX0 tyX0_ok nmX0 hown hK hP hD hS (0) rfl rfl 2 (by decide) (hts (.fieldLink RX0 16 "VinegarLoft$Barrel" "litres" "D") (by decide +kernel)) (fun _ h9 => h9) rfl (by decide +kernel) rfl rfl (Nat.le_of_ble_eq_true rfl) dX0_takeOut_7 (fun H locs hP hD hS => ?_)
  have hP : va_P D vwCl [(a, .inr (0, [.int w, .int z, .double (FP.dsub li less), .double ag, .double ac, .double su]))] H := hP
  have hD : va_D A [(a, .inr (0, [.int w, .int z, .double (FP.dsub li less), .double ag, .double ac, .double su]))] := hD
  refine lv_aload_n hx hb dX0_takeOut_10 rfl (lv_at hl 0 rfl) ?_
  refine va_get (D := D) (ci := 0) (v := .double (FP.dsub li less)) (C := RX0) (T := TX0) (N := 6) hx hb hts (by decide +kernel) hown hK hP (0) rfl rfl 2 (by decide) (hts (.fieldLink RX0 16 "VinegarLoft$Barrel" "litres" "D") (by decide +kernel)) (fun _ h9 => h9) rfl dX0_takeOut_11 ?_
  refine kd_0 hx hb dX0_takeOut_14 ?_
  refine kd_gt (tgt := 23) hx hb dX0_takeOut_15 dX0_takeOut_16 (by decide) h2 (fun c15 => ?_) (fun c15 => ?_)
  · have hP : va_P D vwCl ([(a, tkE w z li ag ac su less)]) H := by unfold tkE; rw [if_pos c15]; exact hP
    have hD : va_D A ([(a, tkE w z li ag ac su less)]) := by unfold tkE; rw [if_pos c15]; exact hD
    exact W.vret hx hb hr (fun t ht hW => ⟨⟨(), rfl, trivial, by rw [ht]; exact hP, va_K.moved hW.alike hK, hD⟩, hS.F ht⟩) hS.2.2 dX0_takeOut_23
  · refine lv_aload_n hx hb dX0_takeOut_19 rfl (lv_at hl 0 rfl) ?_
    refine kc_v (w1 := []) (w3 := []) (va_runV (As := []) (rest := []) ⟨hx, hb, hml, hown, hts⟩ (metX0_clear l D H.size a w z (FP.dsub li less) ag ac su) (cwV 0 hts gX0_takeOut_X0_clear rfl rfl rfl (by decide +kernel) ⟨Nat.le_of_ble_eq_true rfl, Nat.le_of_ble_eq_true rfl⟩) (pmV 0 0 RX0 TX0 6 rfl rfl hP (hK.sub [] rfl) hD) rfl rfl hl.1 rfl (lv_room (Nat.le_of_ble_eq_true rfl)) dX0_takeOut_20 ⟨Nat.le_of_ble_eq_true rfl, Nat.le_of_ble_eq_true rfl⟩) hP hD hS hA (fun H locs hP hD hS => ?_)
    have hP : va_P D vwCl [(a, .inr (0, [.int w, .int z, .double 0, .double 0, .double 0, .double 0]))] H := hP
    have hD : va_D A [(a, .inr (0, [.int w, .int z, .double 0, .double 0, .double 0, .double 0]))] := hD
    have hP : va_P D vwCl ([(a, tkE w z li ag ac su less)]) H := by unfold tkE; rw [if_neg c15]; exact hP
    have hD : va_D A ([(a, tkE w z li ag ac su less)]) := by unfold tkE; rw [if_neg c15]; exact hD
    exact W.vret hx hb hr (fun t ht hW => ⟨⟨(), rfl, trivial, by rw [ht]; exact hP, va_K.moved hW.alike hK, hD⟩, hS.F ht⟩) hS.2.2 dX0_takeOut_23
set_option maxHeartbeats 4000000 in
set_option maxRecDepth 100000 in
/-- share(wood) -/
theorem metX0_share (l : Launch) (D : va_G) (k : Int32)  : Met l yX0_share wsX0_share { frames := 0, cells := 0, slots := 0, locals := 0 } (Pr D [] [.int k] ([])) (vp_Sd (fun r : UInt64 => r = shv k)) 0 0 (fun _ => False) := by
  refine Met.ofW (cc := cX0_share) (maxL := 1) (ret := (some .double)) (by decide) rfl ?_
  intro p e s m args below meth c s₁ B hml hv
  obtain ⟨rfl, hP, hK⟩ := hv
  have hx := B.exec
  have hb := B.bytes
  have hr := B.returns
  have hts := atoms_spec (ws := wsX0_share) B.pre
  have hown : s.vm.findClass RX0 = some m.cls := findClass_of_methodNamed B.named
  have hlocks := B.notSynchronized
  have hl := lv_entry ([.int k]) (n := 1) (Nat.le_of_ble_eq_true rfl)
  rw [lg_entry_eq]
  generalize (lg_sl ([.int k]) ++ List.replicate (1 - (lg_sl ([.int k])).length) Slot.unset).toArray = ls at hl ⊢
  have hl : lv_has ls 1 [(0, .int k)] := hl
  refine lv_iload_n hx hb dX0_share_0 rfl (lv_at hl 0 rfl) ?_
  by_cases e0 : k = 0
  · subst e0
    refine lv_tableIn (off := 27) (tgt := 28) hx hb dX0_share_1 (by decide) (by decide) (by decide) (by decide) ?_
    refine lv_ldc2d hx hb hown (hts (.constantDouble RX0 71 4581421828931458171) (by decide +kernel)) dX0_share_28 ?_
    exact W.dret hx hb hr (fun t ht hW => ⟨_, rfl, rfl, ht⟩) (fun q hq => absurd hq List.not_mem_nil) dX0_share_31
  by_cases e1 : k = 1
  · subst e1
    refine lv_tableIn (off := 31) (tgt := 32) hx hb dX0_share_1 (by decide) (by decide) (by decide) (by decide) ?_
    refine lv_ldc2d hx hb hown (hts (.constantDouble RX0 73 4584304132692975288) (by decide +kernel)) dX0_share_32 ?_
    exact W.dret hx hb hr (fun t ht hW => ⟨_, rfl, by unfold shv; rfl, ht⟩) (fun q hq => absurd hq List.not_mem_nil) dX0_share_35
  by_cases e2 : k = 2
  · subst e2
    refine lv_tableIn (off := 35) (tgt := 36) hx hb dX0_share_1 (by decide) (by decide) (by decide) (by decide) ?_
    refine lv_ldc2d hx hb hown (hts (.constantDouble RX0 75 4585204852618449388) (by decide +kernel)) dX0_share_36 ?_
    exact W.dret hx hb hr (fun t ht hW => ⟨_, rfl, by unfold shv; rfl, ht⟩) (fun q hq => absurd hq List.not_mem_nil) dX0_share_39
  refine lv_tableOut (tgt := 40) hx hb dX0_share_1 (by_contra_sw e0 e1 e2) (by decide) ?_
  refine lv_ldc2d hx hb hown (hts (.constantDouble RX0 77 4582862980812216730) (by decide +kernel)) dX0_share_40 ?_
  exact W.dret hx hb hr (fun t ht hW => ⟨_, rfl, by unfold shv; rw [if_neg e0, if_neg e1, if_neg e2], ht⟩) (fun q hq => absurd hq List.not_mem_nil) dX0_share_43
set_option maxHeartbeats 4000000 in
set_option maxRecDepth 100000 in
/-- sour() -/
theorem metX0_sour (l : Launch) (D : va_G) (sz : Nat) (a : Nat) (w z : Int32) (li ag ac su : UInt64) (h : sook ac su) : Met l yX0_sour wsX0_sour { frames := 0, cells := 0, slots := 0, locals := 0 } (Pm D [] [.ref a] ([(a, .inr (0, [.int w, .int z, .double li, .double ag, .double ac, .double su]))]) sz) (va_Qv (fun (_ : Unit) => True) (Bm D [] (va_A ([(a, .inr (0, [.int w, .int z, .double li, .double ag, .double ac, .double su]))]) sz) ([(a, .inr (0, [.int w, .int z, .double li, .double ag, .double (soA ac su), .double (soS ac su)]))])) (va_A ([(a, .inr (0, [.int w, .int z, .double li, .double ag, .double ac, .double su]))]) sz)) 0 0 (va_A ([(a, .inr (0, [.int w, .int z, .double li, .double ag, .double ac, .double su]))]) sz) := by
  refine Met.ofW (cc := cX0_sour) (maxL := 3) (ret := none) (by decide) rfl ?_
  intro p e s m args below meth c s₁ B hml hv
  obtain ⟨rfl, hsz, hP, hK, hD0⟩ := hv
  have hx := B.exec
  have hb := B.bytes
  have hr := B.returns
  have hts := atoms_spec (ws := wsX0_sour) B.pre
  have hown : s.vm.findClass RX0 = some m.cls := findClass_of_methodNamed B.named
  have hlocks := B.notSynchronized
  subst hsz
  have hD := hD0.self (sz := s.heap.size)
  generalize hAe : va_A ([(a, .inr (0, [.int w, .int z, .double li, .double ag, .double ac, .double su]))]) s.heap.size = A at hD ⊢
  have hA : ∀ q : Nat, s.heap.size ≤ q → A q := fun q h => by rw [← hAe]; exact Or.inr h
  refine kW_H (fun H hH => ?_)
  have hP : va_P D vwCl ([(a, .inr (0, [.int w, .int z, .double li, .double ag, .double ac, .double su]))]) H := by rw [hH]; exact hP
  have hS : va_S A s.heap H [] := by rw [hH]; exact va_S.rf
  have hl := lv_entry ([.ref a]) (n := 3) (Nat.le_of_ble_eq_true rfl)
  rw [lg_entry_eq]
  generalize (lg_sl ([.ref a]) ++ List.replicate (3 - (lg_sl ([.ref a])).length) Slot.unset).toArray = ls at hl ⊢
  have hl : lv_has ls 3 [(0, .ref a)] := hl
  obtain ⟨h1, h2, h3, h4, h5, h6⟩ := h
  refine lv_aload_n hx hb dX0_sour_0 rfl (lv_at hl 0 rfl) ?_
  refine va_get (D := D) (ci := 0) (v := .double su) (C := RX0) (T := TX0) (N := 6) hx hb hts (by decide +kernel) hown hK hP (0) rfl rfl 5 (by decide) (hts (.fieldLink RX0 26 "VinegarLoft$Barrel" "sugar" "D") (by decide +kernel)) (fun _ h9 => h9) rfl dX0_sour_1 ?_
  refine lv_ldc2d hx hb hown (hts (.constantDouble RX0 53 4626322717216342016) (by decide +kernel)) dX0_sour_4 ?_
  refine kd_le (tgt := 49) hx hb dX0_sour_7 dX0_sour_8 (by decide) h1 (fun c7 => ?_) (fun c7 => ?_)
  · refine lv_aload_n hx hb dX0_sour_49 rfl (lv_at hl 0 rfl) ?_
    refine va_get (D := D) (ci := 0) (v := .double ac) (C := RX0) (T := TX0) (N := 6) hx hb hts (by decide +kernel) hown hK hP (0) rfl rfl 4 (by decide) (hts (.fieldLink RX0 23 "VinegarLoft$Barrel" "acid" "D") (by decide +kernel)) (fun _ h9 => h9) rfl dX0_sour_50 ?_
    refine lv_ldc2d hx hb hown (hts (.constantDouble RX0 61 4591870180066957722) (by decide +kernel)) dX0_sour_53 ?_
    refine lv_dadd hx hb dX0_sour_56 h5 ?_
    refine lv_dstore_n (lv' := [(1, .double (FP.dadd ac 4591870180066957722)), (0, .ref a)]) hx hb dX0_sour_57 rfl hl (by decide) rfl (fun ls hl => ?_)
    refine lv_aload_n hx hb dX0_sour_58 rfl (lv_at hl 1 rfl) ?_
    refine lv_dload_n hx hb dX0_sour_59 rfl (lv_at hl 0 rfl) ?_
    refine lv_ldc2d hx hb hown (hts (.constantDouble RX0 63 4622945017495814144) (by decide +kernel)) dX0_sour_60 ?_
    refine kd_le (tgt := 73) hx hb dX0_sour_63 dX0_sour_64 (by decide) h6 (fun c63 => ?_) (fun c63 => ?_)
    · refine lv_dload_n hx hb dX0_sour_73 rfl (lv_at hl 0 rfl) ?_
      refine va_put (D := D) (ci := 0) (v := .double (FP.dadd ac 4591870180066957722)) (ty := .double) (C := RX0) (T := TX0) (N := 6) hx hb hts (by decide +kernel) tyX0 tyX0_ok nmX0 hown hK hP hD hS (0) rfl rfl 4 (by decide) (hts (.fieldLink RX0 23 "VinegarLoft$Barrel" "acid" "D") (by decide +kernel)) (fun _ h9 => h9) rfl (by decide +kernel) rfl rfl (Nat.le_of_ble_eq_true rfl) dX0_sour_74 (fun H locs hP hD hS => ?_)
      have hP : va_P D vwCl [(a, .inr (0, [.int w, .int z, .double li, .double ag, .double (FP.dadd ac 4591870180066957722), .double su]))] H := hP
      have hD : va_D A [(a, .inr (0, [.int w, .int z, .double li, .double ag, .double (FP.dadd ac 4591870180066957722), .double su]))] := hD
      have hP : va_P D vwCl ([(a, .inr (0, [.int w, .int z, .double li, .double ag, .double (soA ac su), .double (soS ac su)]))]) H := by unfold soA soS; have hn : ¬ (FP.dcmp su 4626322717216342016 = some .gt ∧ FP.dcmp ac 4620693217682128896 = some .lt) := fun h9 => c7 h9.1; rw [if_neg hn, if_neg hn, if_neg c63]; exact hP
      have hD : va_D A ([(a, .inr (0, [.int w, .int z, .double li, .double ag, .double (soA ac su), .double (soS ac su)]))]) := by unfold soA soS; have hn : ¬ (FP.dcmp su 4626322717216342016 = some .gt ∧ FP.dcmp ac 4620693217682128896 = some .lt) := fun h9 => c7 h9.1; rw [if_neg hn, if_neg hn, if_neg c63]; exact hD
      exact W.vret hx hb hr (fun t ht hW => ⟨⟨(), rfl, trivial, by rw [ht]; exact hP, va_K.moved hW.alike hK, hD⟩, hS.F ht⟩) hS.2.2 dX0_sour_77
    · refine lv_ldc2d hx hb hown (hts (.constantDouble RX0 63 4622945017495814144) (by decide +kernel)) dX0_sour_67 ?_
      refine lv_goto (tgt := 74) hx hb dX0_sour_70 (by decide) ?_
      refine va_put (D := D) (ci := 0) (v := .double 4622945017495814144) (ty := .double) (C := RX0) (T := TX0) (N := 6) hx hb hts (by decide +kernel) tyX0 tyX0_ok nmX0 hown hK hP hD hS (0) rfl rfl 4 (by decide) (hts (.fieldLink RX0 23 "VinegarLoft$Barrel" "acid" "D") (by decide +kernel)) (fun _ h9 => h9) rfl (by decide +kernel) rfl rfl (Nat.le_of_ble_eq_true rfl) dX0_sour_74 (fun H locs hP hD hS => ?_)
      have hP : va_P D vwCl [(a, .inr (0, [.int w, .int z, .double li, .double ag, .double 4622945017495814144, .double su]))] H := hP
      have hD : va_D A [(a, .inr (0, [.int w, .int z, .double li, .double ag, .double 4622945017495814144, .double su]))] := hD
      have hP : va_P D vwCl ([(a, .inr (0, [.int w, .int z, .double li, .double ag, .double (soA ac su), .double (soS ac su)]))]) H := by unfold soA soS; have hn : ¬ (FP.dcmp su 4626322717216342016 = some .gt ∧ FP.dcmp ac 4620693217682128896 = some .lt) := fun h9 => c7 h9.1; rw [if_neg hn, if_neg hn, if_pos c63]; exact hP
      have hD : va_D A ([(a, .inr (0, [.int w, .int z, .double li, .double ag, .double (soA ac su), .double (soS ac su)]))]) := by unfold soA soS; have hn : ¬ (FP.dcmp su 4626322717216342016 = some .gt ∧ FP.dcmp ac 4620693217682128896 = some .lt) := fun h9 => c7 h9.1; rw [if_neg hn, if_neg hn, if_pos c63]; exact hD
      exact W.vret hx hb hr (fun t ht hW => ⟨⟨(), rfl, trivial, by rw [ht]; exact hP, va_K.moved hW.alike hK, hD⟩, hS.F ht⟩) hS.2.2 dX0_sour_77
  · refine lv_aload_n hx hb dX0_sour_11 rfl (lv_at hl 0 rfl) ?_
    refine va_get (D := D) (ci := 0) (v := .double ac) (C := RX0) (T := TX0) (N := 6) hx hb hts (by decide +kernel) hown hK hP (0) rfl rfl 4 (by decide) (hts (.fieldLink RX0 23 "VinegarLoft$Barrel" "acid" "D") (by decide +kernel)) (fun _ h9 => h9) rfl dX0_sour_12 ?_
    refine lv_ldc2d hx hb hown (hts (.constantDouble RX0 55 4620693217682128896) (by decide +kernel)) dX0_sour_15 ?_
    refine kd_ge (tgt := 49) hx hb dX0_sour_18 dX0_sour_19 (by decide) h2 (fun c18 => ?_) (fun c18 => ?_)
    · refine lv_aload_n hx hb dX0_sour_49 rfl (lv_at hl 0 rfl) ?_
      refine va_get (D := D) (ci := 0) (v := .double ac) (C := RX0) (T := TX0) (N := 6) hx hb hts (by decide +kernel) hown hK hP (0) rfl rfl 4 (by decide) (hts (.fieldLink RX0 23 "VinegarLoft$Barrel" "acid" "D") (by decide +kernel)) (fun _ h9 => h9) rfl dX0_sour_50 ?_
      refine lv_ldc2d hx hb hown (hts (.constantDouble RX0 61 4591870180066957722) (by decide +kernel)) dX0_sour_53 ?_
      refine lv_dadd hx hb dX0_sour_56 h5 ?_
      refine lv_dstore_n (lv' := [(1, .double (FP.dadd ac 4591870180066957722)), (0, .ref a)]) hx hb dX0_sour_57 rfl hl (by decide) rfl (fun ls hl => ?_)
      refine lv_aload_n hx hb dX0_sour_58 rfl (lv_at hl 1 rfl) ?_
      refine lv_dload_n hx hb dX0_sour_59 rfl (lv_at hl 0 rfl) ?_
      refine lv_ldc2d hx hb hown (hts (.constantDouble RX0 63 4622945017495814144) (by decide +kernel)) dX0_sour_60 ?_
      refine kd_le (tgt := 73) hx hb dX0_sour_63 dX0_sour_64 (by decide) h6 (fun c63 => ?_) (fun c63 => ?_)
      · refine lv_dload_n hx hb dX0_sour_73 rfl (lv_at hl 0 rfl) ?_
        refine va_put (D := D) (ci := 0) (v := .double (FP.dadd ac 4591870180066957722)) (ty := .double) (C := RX0) (T := TX0) (N := 6) hx hb hts (by decide +kernel) tyX0 tyX0_ok nmX0 hown hK hP hD hS (0) rfl rfl 4 (by decide) (hts (.fieldLink RX0 23 "VinegarLoft$Barrel" "acid" "D") (by decide +kernel)) (fun _ h9 => h9) rfl (by decide +kernel) rfl rfl (Nat.le_of_ble_eq_true rfl) dX0_sour_74 (fun H locs hP hD hS => ?_)
        have hP : va_P D vwCl [(a, .inr (0, [.int w, .int z, .double li, .double ag, .double (FP.dadd ac 4591870180066957722), .double su]))] H := hP
        have hD : va_D A [(a, .inr (0, [.int w, .int z, .double li, .double ag, .double (FP.dadd ac 4591870180066957722), .double su]))] := hD
        have hP : va_P D vwCl ([(a, .inr (0, [.int w, .int z, .double li, .double ag, .double (soA ac su), .double (soS ac su)]))]) H := by unfold soA soS; have hn : ¬ (FP.dcmp su 4626322717216342016 = some .gt ∧ FP.dcmp ac 4620693217682128896 = some .lt) := fun h9 => c18 h9.2; rw [if_neg hn, if_neg hn, if_neg c63]; exact hP
        have hD : va_D A ([(a, .inr (0, [.int w, .int z, .double li, .double ag, .double (soA ac su), .double (soS ac su)]))]) := by unfold soA soS; have hn : ¬ (FP.dcmp su 4626322717216342016 = some .gt ∧ FP.dcmp ac 4620693217682128896 = some .lt) := fun h9 => c18 h9.2; rw [if_neg hn, if_neg hn, if_neg c63]; exact hD
        exact W.vret hx hb hr (fun t ht hW => ⟨⟨(), rfl, trivial, by rw [ht]; exact hP, va_K.moved hW.alike hK, hD⟩, hS.F ht⟩) hS.2.2 dX0_sour_77
      · refine lv_ldc2d hx hb hown (hts (.constantDouble RX0 63 4622945017495814144) (by decide +kernel)) dX0_sour_67 ?_
        refine lv_goto (tgt := 74) hx hb dX0_sour_70 (by decide) ?_
        refine va_put (D := D) (ci := 0) (v := .double 4622945017495814144) (ty := .double) (C := RX0) (T := TX0) (N := 6) hx hb hts (by decide +kernel) tyX0 tyX0_ok nmX0 hown hK hP hD hS (0) rfl rfl 4 (by decide) (hts (.fieldLink RX0 23 "VinegarLoft$Barrel" "acid" "D") (by decide +kernel)) (fun _ h9 => h9) rfl (by decide +kernel) rfl rfl (Nat.le_of_ble_eq_true rfl) dX0_sour_74 (fun H locs hP hD hS => ?_)
        have hP : va_P D vwCl [(a, .inr (0, [.int w, .int z, .double li, .double ag, .double 4622945017495814144, .double su]))] H := hP
        have hD : va_D A [(a, .inr (0, [.int w, .int z, .double li, .double ag, .double 4622945017495814144, .double su]))] := hD
        have hP : va_P D vwCl ([(a, .inr (0, [.int w, .int z, .double li, .double ag, .double (soA ac su), .double (soS ac su)]))]) H := by unfold soA soS; have hn : ¬ (FP.dcmp su 4626322717216342016 = some .gt ∧ FP.dcmp ac 4620693217682128896 = some .lt) := fun h9 => c18 h9.2; rw [if_neg hn, if_neg hn, if_pos c63]; exact hP
        have hD : va_D A ([(a, .inr (0, [.int w, .int z, .double li, .double ag, .double (soA ac su), .double (soS ac su)]))]) := by unfold soA soS; have hn : ¬ (FP.dcmp su 4626322717216342016 = some .gt ∧ FP.dcmp ac 4620693217682128896 = some .lt) := fun h9 => c18 h9.2; rw [if_neg hn, if_neg hn, if_pos c63]; exact hD
        exact W.vret hx hb hr (fun t ht hW => ⟨⟨(), rfl, trivial, by rw [ht]; exact hP, va_K.moved hW.alike hK, hD⟩, hS.F ht⟩) hS.2.2 dX0_sour_77
    · refine lv_aload_n hx hb dX0_sour_22 rfl (lv_at hl 0 rfl) ?_
      refine lv_aload_n hx hb dX0_sour_23 rfl (lv_at hl 0 rfl) ?_
      refine va_get (D := D) (ci := 0) (v := .double ac) (C := RX0) (T := TX0) (N := 6) hx hb hts (by decide +kernel) hown hK hP (0) rfl rfl 4 (by decide) (hts (.fieldLink RX0 23 "VinegarLoft$Barrel" "acid" "D") (by decide +kernel)) (fun _ h9 => h9) rfl dX0_sour_24 ?_
      refine lv_ldc2d hx hb hown (hts (.constantDouble RX0 57 4603579539098121011) (by decide +kernel)) dX0_sour_27 ?_
      refine lv_dadd hx hb dX0_sour_30 h3 ?_
      refine va_put (D := D) (ci := 0) (v := .double (FP.dadd ac 4603579539098121011)) (ty := .double) (C := RX0) (T := TX0) (N := 6) hx hb hts (by decide +kernel) tyX0 tyX0_ok nmX0 hown hK hP hD hS (0) rfl rfl 4 (by decide) (hts (.fieldLink RX0 23 "VinegarLoft$Barrel" "acid" "D") (by decide +kernel)) (fun _ h9 => h9) rfl (by decide +kernel) rfl rfl (Nat.le_of_ble_eq_true rfl) dX0_sour_31 (fun H locs hP hD hS => ?_)
      have hP : va_P D vwCl [(a, .inr (0, [.int w, .int z, .double li, .double ag, .double (FP.dadd ac 4603579539098121011), .double su]))] H := hP
      have hD : va_D A [(a, .inr (0, [.int w, .int z, .double li, .double ag, .double (FP.dadd ac 4603579539098121011), .double su]))] := hD
      refine lv_aload_n hx hb dX0_sour_34 rfl (lv_at hl 0 rfl) ?_
      refine lv_aload_n hx hb dX0_sour_35 rfl (lv_at hl 0 rfl) ?_
      refine va_get (D := D) (ci := 0) (v := .double su) (C := RX0) (T := TX0) (N := 6) hx hb hts (by decide +kernel) hown hK hP (0) rfl rfl 5 (by decide) (hts (.fieldLink RX0 26 "VinegarLoft$Barrel" "sugar" "D") (by decide +kernel)) (fun _ h9 => h9) rfl dX0_sour_36 ?_
      refine lv_ldc2d hx hb hown (hts (.constantDouble RX0 59 4605380978949069210) (by decide +kernel)) dX0_sour_39 ?_
      refine lv_dsub hx hb dX0_sour_42 h4 ?_
      refine va_put (D := D) (ci := 0) (v := .double (FP.dsub su 4605380978949069210)) (ty := .double) (C := RX0) (T := TX0) (N := 6) hx hb hts (by decide +kernel) tyX0 tyX0_ok nmX0 hown hK hP hD hS (0) rfl rfl 5 (by decide) (hts (.fieldLink RX0 26 "VinegarLoft$Barrel" "sugar" "D") (by decide +kernel)) (fun _ h9 => h9) rfl (by decide +kernel) rfl rfl (Nat.le_of_ble_eq_true rfl) dX0_sour_43 (fun H locs hP hD hS => ?_)
      have hP : va_P D vwCl [(a, .inr (0, [.int w, .int z, .double li, .double ag, .double (FP.dadd ac 4603579539098121011), .double (FP.dsub su 4605380978949069210)]))] H := hP
      have hD : va_D A [(a, .inr (0, [.int w, .int z, .double li, .double ag, .double (FP.dadd ac 4603579539098121011), .double (FP.dsub su 4605380978949069210)]))] := hD
      refine lv_goto (tgt := 77) hx hb dX0_sour_46 (by decide) ?_
      have hP : va_P D vwCl ([(a, .inr (0, [.int w, .int z, .double li, .double ag, .double (soA ac su), .double (soS ac su)]))]) H := by unfold soA soS; rw [if_pos ⟨c7, c18⟩, if_pos ⟨c7, c18⟩]; exact hP
      have hD : va_D A ([(a, .inr (0, [.int w, .int z, .double li, .double ag, .double (soA ac su), .double (soS ac su)]))]) := by unfold soA soS; rw [if_pos ⟨c7, c18⟩, if_pos ⟨c7, c18⟩]; exact hD
      exact W.vret hx hb hr (fun t ht hW => ⟨⟨(), rfl, trivial, by rw [ht]; exact hP, va_K.moved hW.alike hK, hD⟩, hS.F ht⟩) hS.2.2 dX0_sour_77
set_option maxHeartbeats 4000000 in
set_option maxRecDepth 100000 in
/-- spendYear(draught), of one that is not empty -/
theorem metX0_spendYear (l : Launch) (D : va_G) (sz : Nat) (a : Nat) (w z : Int32) (li ag ac su : UInt64) (dr : UInt64) (hy : yearok w li ag ac su dr) : Met l yX0_spendYear wsX0_spendYear { frames := 2, cells := 0, slots := 0, locals := 42 } (Pm D [] [.ref a, .double dr] ([(a, .inr (0, [.int w, .int z, .double li, .double ag, .double ac, .double su]))]) sz) (va_Qd (fun (r : UInt64) (_ : Unit) => r = losv w li dr) (Bm D [] (va_A ([(a, .inr (0, [.int w, .int z, .double li, .double ag, .double ac, .double su]))]) sz) ([(a, .inr (0, [.int w, .int z, .double (FP.dsub li (losv w li dr)), .double (FP.dadd ag 4607182418800017408), .double (soA ac (thick su li (FP.dsub li (losv w li dr)))), .double (soS ac (thick su li (FP.dsub li (losv w li dr))))]))])) (va_A ([(a, .inr (0, [.int w, .int z, .double li, .double ag, .double ac, .double su]))]) sz)) 0 0 (va_A ([(a, .inr (0, [.int w, .int z, .double li, .double ag, .double ac, .double su]))]) sz) := by
  refine Met.ofW (cc := cX0_spendYear) (maxL := 9) (ret := (some .double)) (by decide) rfl ?_
  intro p e s m args below meth c s₁ B hml hv
  obtain ⟨rfl, hsz, hP, hK, hD0⟩ := hv
  have hx := B.exec
  have hb := B.bytes
  have hr := B.returns
  have hts := atoms_spec (ws := wsX0_spendYear) B.pre
  have hown : s.vm.findClass RX0 = some m.cls := findClass_of_methodNamed B.named
  have hlocks := B.notSynchronized
  subst hsz
  have hD := hD0.self (sz := s.heap.size)
  generalize hAe : va_A ([(a, .inr (0, [.int w, .int z, .double li, .double ag, .double ac, .double su]))]) s.heap.size = A at hD ⊢
  have hA : ∀ q : Nat, s.heap.size ≤ q → A q := fun q h => by rw [← hAe]; exact Or.inr h
  refine kW_H (fun H hH => ?_)
  have hP : va_P D vwCl ([(a, .inr (0, [.int w, .int z, .double li, .double ag, .double ac, .double su]))]) H := by rw [hH]; exact hP
  have hS : va_S A s.heap H [] := by rw [hH]; exact va_S.rf
  have hl := lv_entry ([.ref a, .double dr]) (n := 9) (Nat.le_of_ble_eq_true rfl)
  rw [lg_entry_eq]
  generalize (lg_sl ([.ref a, .double dr]) ++ List.replicate (9 - (lg_sl ([.ref a, .double dr])).length) Slot.unset).toArray = ls at hl ⊢
  have hl : lv_has ls 9 [(0, .ref a), (1, .double dr)] := hl
  obtain ⟨y1, y2, y3, y4, y5, y6, y7, y8, y9⟩ := hy
  obtain ⟨be, hbe⟩ : ∃ be, FP.dsub li (losv w li dr) = be := ⟨_, rfl⟩
  refine lv_aload_n hx hb dX0_spendYear_0 rfl (lv_at hl 0 rfl) ?_
  refine va_get (D := D) (ci := 0) (v := .double li) (C := RX0) (T := TX0) (N := 6) hx hb hts (by decide +kernel) hown hK hP (0) rfl rfl 2 (by decide) (hts (.fieldLink RX0 16 "VinegarLoft$Barrel" "litres" "D") (by decide +kernel)) (fun _ h9 => h9) rfl dX0_spendYear_1 ?_
  refine lv_dstore_n (lv' := [(3, .double li), (0, .ref a), (1, .double dr)]) hx hb dX0_spendYear_4 rfl hl (by decide) rfl (fun ls hl => ?_)
  refine lv_aload_n hx hb dX0_spendYear_5 rfl (lv_at hl 1 rfl) ?_
  refine va_get (D := D) (ci := 0) (v := .double li) (C := RX0) (T := TX0) (N := 6) hx hb hts (by decide +kernel) hown hK hP (0) rfl rfl 2 (by decide) (hts (.fieldLink RX0 16 "VinegarLoft$Barrel" "litres" "D") (by decide +kernel)) (fun _ h9 => h9) rfl dX0_spendYear_6 ?_
  refine lv_aload_n hx hb dX0_spendYear_9 rfl (lv_at hl 1 rfl) ?_
  refine va_get (D := D) (ci := 0) (v := .int w) (C := RX0) (T := TX0) (N := 6) hx hb hts (by decide +kernel) hown hK hP (0) rfl rfl 0 (by decide) (hts (.fieldLink RX0 7 "VinegarLoft$Barrel" "wood" "I") (by decide +kernel)) (fun _ h9 => h9) rfl dX0_spendYear_10 ?_
  refine kr_d (W.runS (As := [.int w]) (rest := [.double li]) ⟨hx, hb, hml, hown, hts⟩ (metX0_share l D w) (va_cwS 1 hts gX0_spendYear_X0_share rfl rfl rfl (by decide +kernel) ⟨Nat.le_of_ble_eq_true rfl, Nat.le_of_ble_eq_true rfl⟩) (prS (ws := []) (tys := []) (fun k q h => by simp at h) (hK.sub [] rfl)) rfl rfl hl.1 rfl (lv_room (Nat.le_of_ble_eq_true rfl)) dX0_spendYear_13 ⟨Nat.le_of_ble_eq_true rfl, Nat.le_of_ble_eq_true rfl⟩) ?_
  refine lv_dmul hx hb dX0_spendYear_16 y1 ?_
  refine lv_dload_n hx hb dX0_spendYear_17 rfl (lv_at hl 2 rfl) ?_
  refine lv_dmul hx hb dX0_spendYear_18 y2 ?_
  refine lv_dstore (lv' := [(5, .double (losv w li dr)), (3, .double li), (0, .ref a), (1, .double dr)]) hx hb dX0_spendYear_19 hl (by decide) rfl (fun ls hl => ?_)
  refine lv_aload_n hx hb dX0_spendYear_21 rfl (lv_at hl 2 rfl) ?_
  refine lv_dload hx hb dX0_spendYear_22 (lv_at hl 0 rfl) ?_
  refine kc_v (w1 := []) (w3 := []) (va_runV (As := [.double (losv w li dr)]) (rest := []) ⟨hx, hb, hml, hown, hts⟩ (metX0_takeOut l D H.size a w z li ag ac su (losv w li dr) y3 (gt_ne y4)) (cwV 1 hts gX0_spendYear_X0_takeOut rfl rfl rfl (by decide +kernel) ⟨Nat.le_of_ble_eq_true rfl, Nat.le_of_ble_eq_true rfl⟩) (pmV 0 0 RX0 TX0 6 rfl rfl hP (hK.sub [] rfl) hD) rfl rfl hl.1 rfl (lv_room (Nat.le_of_ble_eq_true rfl)) dX0_spendYear_24 ⟨Nat.le_of_ble_eq_true rfl, Nat.le_of_ble_eq_true rfl⟩) hP hD hS hA (fun H locs hP hD hS => ?_)
  have hP : va_P D vwCl [(a, tkE w z li ag ac su (losv w li dr))] H := hP
  have hD : va_D A [(a, tkE w z li ag ac su (losv w li dr))] := hD
  have ek : tkE w z li ag ac su (losv w li dr) = EB w z be ag ac su := by unfold tkE; rw [hbe, if_pos (by rw [hbe] at y4; exact y4)]
  rw [ek] at hP hD
  refine lv_aload_n hx hb dX0_spendYear_27 rfl (lv_at hl 2 rfl) ?_
  rw [hbe] at y4
  refine kr_i (W.runV (As := []) (rest := []) ⟨hx, hb, hml, hown, hts⟩ (metX0_isEmpty l D a w z be ag ac su (gt_ne y4)) (cwV 0 hts gX0_spendYear_X0_isEmpty rfl rfl rfl (by decide +kernel) ⟨Nat.le_of_ble_eq_true rfl, Nat.le_of_ble_eq_true rfl⟩) (prV 0 0 RX0 TX0 6 rfl rfl hP (hK.sub [] rfl)) rfl rfl hl.1 rfl (lv_room (Nat.le_of_ble_eq_true rfl)) dX0_spendYear_28 ⟨Nat.le_of_ble_eq_true rfl, Nat.le_of_ble_eq_true rfl⟩) ?_
  rw [show emp be = 0 from if_pos y4]
  refine lv_if_ne (tgt := 82) hx hb dX0_spendYear_31 (by decide) (fun c31 => absurd c31 (fun h9 => h9 rfl)) (fun c31 => ?_)
  refine lv_aload_n hx hb dX0_spendYear_34 rfl (lv_at hl 2 rfl) ?_
  refine va_get (D := D) (ci := 0) (v := .double su) (C := RX0) (T := TX0) (N := 6) hx hb hts (by decide +kernel) hown hK hP (0) rfl rfl 5 (by decide) (hts (.fieldLink RX0 26 "VinegarLoft$Barrel" "sugar" "D") (by decide +kernel)) (fun _ h9 => h9) rfl dX0_spendYear_35 ?_
  refine lv_dload_n hx hb dX0_spendYear_38 rfl (lv_at hl 1 rfl) ?_
  refine lv_dmul hx hb dX0_spendYear_39 y5 ?_
  refine lv_aload_n hx hb dX0_spendYear_40 rfl (lv_at hl 2 rfl) ?_
  refine va_get (D := D) (ci := 0) (v := .double be) (C := RX0) (T := TX0) (N := 6) hx hb hts (by decide +kernel) hown hK hP (0) rfl rfl 2 (by decide) (hts (.fieldLink RX0 16 "VinegarLoft$Barrel" "litres" "D") (by decide +kernel)) (fun _ h9 => h9) rfl dX0_spendYear_41 ?_
  refine lv_ddiv hx hb dX0_spendYear_44 (by rw [← hbe]; exact y6) ?_
  refine lv_dstore (lv' := [(7, .double (FP.ddiv (FP.dmul su li) be)), (5, .double (losv w li dr)), (3, .double li), (0, .ref a), (1, .double dr)]) hx hb dX0_spendYear_45 hl (by decide) rfl (fun ls hl => ?_)
  refine lv_aload_n hx hb dX0_spendYear_47 rfl (lv_at hl 3 rfl) ?_
  refine lv_dload hx hb dX0_spendYear_48 (lv_at hl 0 rfl) ?_
  refine lv_ldc2d hx hb hown (hts (.constantDouble RX0 48 4634626229029306368) (by decide +kernel)) dX0_spendYear_50 ?_
  refine kd_le (tgt := 63) hx hb dX0_spendYear_53 dX0_spendYear_54 (by decide) (by rw [← hbe]; exact y7) (fun c53 => ?_) (fun c53 => ?_)
  · refine lv_dload hx hb dX0_spendYear_63 (lv_at hl 0 rfl) ?_
    refine kd_eq (show (FP.ddiv (FP.dmul su li) be) = thick su li be from by unfold thick; rw [if_neg c53]) ?_
    refine va_put (D := D) (ci := 0) (v := .double (thick su li be)) (ty := .double) (C := RX0) (T := TX0) (N := 6) hx hb hts (by decide +kernel) tyX0 tyX0_ok nmX0 hown hK hP hD hS (0) rfl rfl 5 (by decide) (hts (.fieldLink RX0 26 "VinegarLoft$Barrel" "sugar" "D") (by decide +kernel)) (fun _ h9 => h9) rfl (by decide +kernel) rfl rfl (Nat.le_of_ble_eq_true rfl) dX0_spendYear_65 (fun H locs hP hD hS => ?_)
    have hP : va_P D vwCl [(a, .inr (0, [.int w, .int z, .double be, .double ag, .double ac, .double (thick su li be)]))] H := hP
    have hD : va_D A [(a, .inr (0, [.int w, .int z, .double be, .double ag, .double ac, .double (thick su li be)]))] := hD
    refine lv_aload_n hx hb dX0_spendYear_68 rfl (lv_at hl 3 rfl) ?_
    have y8 : sook ac (thick su li be) := by rw [← hbe]; exact y8
    refine kc_v (w1 := []) (w3 := []) (va_runV (As := []) (rest := []) ⟨hx, hb, hml, hown, hts⟩ (metX0_sour l D H.size a w z be ag ac (thick su li be) y8) (cwV 0 hts gX0_spendYear_X0_sour rfl rfl rfl (by decide +kernel) ⟨Nat.le_of_ble_eq_true rfl, Nat.le_of_ble_eq_true rfl⟩) (pmV 0 0 RX0 TX0 6 rfl rfl hP (hK.sub [] rfl) hD) rfl rfl hl.1 rfl (lv_room (Nat.le_of_ble_eq_true rfl)) dX0_spendYear_69 ⟨Nat.le_of_ble_eq_true rfl, Nat.le_of_ble_eq_true rfl⟩) hP hD hS hA (fun H locs hP hD hS => ?_)
    have hP : va_P D vwCl [(a, .inr (0, [.int w, .int z, .double be, .double ag, .double (soA ac (thick su li be)), .double (soS ac (thick su li be))]))] H := hP
    have hD : va_D A [(a, .inr (0, [.int w, .int z, .double be, .double ag, .double (soA ac (thick su li be)), .double (soS ac (thick su li be))]))] := hD
    refine lv_aload_n hx hb dX0_spendYear_72 rfl (lv_at hl 3 rfl) ?_
    refine lv_aload_n hx hb dX0_spendYear_73 rfl (lv_at hl 3 rfl) ?_
    refine va_get (D := D) (ci := 0) (v := .double ag) (C := RX0) (T := TX0) (N := 6) hx hb hts (by decide +kernel) hown hK hP (0) rfl rfl 3 (by decide) (hts (.fieldLink RX0 20 "VinegarLoft$Barrel" "age" "D") (by decide +kernel)) (fun _ h9 => h9) rfl dX0_spendYear_74 ?_
    refine kd_1 hx hb dX0_spendYear_77 ?_
    refine lv_dadd hx hb dX0_spendYear_78 y9 ?_
    refine va_put (D := D) (ci := 0) (v := .double (FP.dadd ag 4607182418800017408)) (ty := .double) (C := RX0) (T := TX0) (N := 6) hx hb hts (by decide +kernel) tyX0 tyX0_ok nmX0 hown hK hP hD hS (0) rfl rfl 3 (by decide) (hts (.fieldLink RX0 20 "VinegarLoft$Barrel" "age" "D") (by decide +kernel)) (fun _ h9 => h9) rfl (by decide +kernel) rfl rfl (Nat.le_of_ble_eq_true rfl) dX0_spendYear_79 (fun H locs hP hD hS => ?_)
    have hP : va_P D vwCl [(a, .inr (0, [.int w, .int z, .double be, .double (FP.dadd ag 4607182418800017408), .double (soA ac (thick su li be)), .double (soS ac (thick su li be))]))] H := hP
    have hD : va_D A [(a, .inr (0, [.int w, .int z, .double be, .double (FP.dadd ag 4607182418800017408), .double (soA ac (thick su li be)), .double (soS ac (thick su li be))]))] := hD
    refine lv_dload hx hb dX0_spendYear_82 (lv_at hl 1 rfl) ?_
    have hP : va_P D vwCl ([(a, .inr (0, [.int w, .int z, .double (FP.dsub li (losv w li dr)), .double (FP.dadd ag 4607182418800017408), .double (soA ac (thick su li (FP.dsub li (losv w li dr)))), .double (soS ac (thick su li (FP.dsub li (losv w li dr))))]))]) H := by rw [hbe]; exact hP
    have hD : va_D A ([(a, .inr (0, [.int w, .int z, .double (FP.dsub li (losv w li dr)), .double (FP.dadd ag 4607182418800017408), .double (soA ac (thick su li (FP.dsub li (losv w li dr)))), .double (soS ac (thick su li (FP.dsub li (losv w li dr))))]))]) := by rw [hbe]; exact hD
    exact W.dret hx hb hr (fun t ht hW => ⟨⟨_, (), rfl, rfl, by rw [ht]; exact hP, va_K.moved hW.alike hK, hD⟩, hS.F ht⟩) hS.2.2 dX0_spendYear_84
  · refine lv_ldc2d hx hb hown (hts (.constantDouble RX0 48 4634626229029306368) (by decide +kernel)) dX0_spendYear_57 ?_
    refine lv_goto (tgt := 65) hx hb dX0_spendYear_60 (by decide) ?_
    refine kd_eq (show 4634626229029306368 = thick su li be from by unfold thick; rw [if_pos c53]) ?_
    refine va_put (D := D) (ci := 0) (v := .double (thick su li be)) (ty := .double) (C := RX0) (T := TX0) (N := 6) hx hb hts (by decide +kernel) tyX0 tyX0_ok nmX0 hown hK hP hD hS (0) rfl rfl 5 (by decide) (hts (.fieldLink RX0 26 "VinegarLoft$Barrel" "sugar" "D") (by decide +kernel)) (fun _ h9 => h9) rfl (by decide +kernel) rfl rfl (Nat.le_of_ble_eq_true rfl) dX0_spendYear_65 (fun H locs hP hD hS => ?_)
    have hP : va_P D vwCl [(a, .inr (0, [.int w, .int z, .double be, .double ag, .double ac, .double (thick su li be)]))] H := hP
    have hD : va_D A [(a, .inr (0, [.int w, .int z, .double be, .double ag, .double ac, .double (thick su li be)]))] := hD
    refine lv_aload_n hx hb dX0_spendYear_68 rfl (lv_at hl 3 rfl) ?_
    have y8 : sook ac (thick su li be) := by rw [← hbe]; exact y8
    refine kc_v (w1 := []) (w3 := []) (va_runV (As := []) (rest := []) ⟨hx, hb, hml, hown, hts⟩ (metX0_sour l D H.size a w z be ag ac (thick su li be) y8) (cwV 0 hts gX0_spendYear_X0_sour rfl rfl rfl (by decide +kernel) ⟨Nat.le_of_ble_eq_true rfl, Nat.le_of_ble_eq_true rfl⟩) (pmV 0 0 RX0 TX0 6 rfl rfl hP (hK.sub [] rfl) hD) rfl rfl hl.1 rfl (lv_room (Nat.le_of_ble_eq_true rfl)) dX0_spendYear_69 ⟨Nat.le_of_ble_eq_true rfl, Nat.le_of_ble_eq_true rfl⟩) hP hD hS hA (fun H locs hP hD hS => ?_)
    have hP : va_P D vwCl [(a, .inr (0, [.int w, .int z, .double be, .double ag, .double (soA ac (thick su li be)), .double (soS ac (thick su li be))]))] H := hP
    have hD : va_D A [(a, .inr (0, [.int w, .int z, .double be, .double ag, .double (soA ac (thick su li be)), .double (soS ac (thick su li be))]))] := hD
    refine lv_aload_n hx hb dX0_spendYear_72 rfl (lv_at hl 3 rfl) ?_
    refine lv_aload_n hx hb dX0_spendYear_73 rfl (lv_at hl 3 rfl) ?_
    refine va_get (D := D) (ci := 0) (v := .double ag) (C := RX0) (T := TX0) (N := 6) hx hb hts (by decide +kernel) hown hK hP (0) rfl rfl 3 (by decide) (hts (.fieldLink RX0 20 "VinegarLoft$Barrel" "age" "D") (by decide +kernel)) (fun _ h9 => h9) rfl dX0_spendYear_74 ?_
    refine kd_1 hx hb dX0_spendYear_77 ?_
    refine lv_dadd hx hb dX0_spendYear_78 y9 ?_
    refine va_put (D := D) (ci := 0) (v := .double (FP.dadd ag 4607182418800017408)) (ty := .double) (C := RX0) (T := TX0) (N := 6) hx hb hts (by decide +kernel) tyX0 tyX0_ok nmX0 hown hK hP hD hS (0) rfl rfl 3 (by decide) (hts (.fieldLink RX0 20 "VinegarLoft$Barrel" "age" "D") (by decide +kernel)) (fun _ h9 => h9) rfl (by decide +kernel) rfl rfl (Nat.le_of_ble_eq_true rfl) dX0_spendYear_79 (fun H locs hP hD hS => ?_)
    have hP : va_P D vwCl [(a, .inr (0, [.int w, .int z, .double be, .double (FP.dadd ag 4607182418800017408), .double (soA ac (thick su li be)), .double (soS ac (thick su li be))]))] H := hP
    have hD : va_D A [(a, .inr (0, [.int w, .int z, .double be, .double (FP.dadd ag 4607182418800017408), .double (soA ac (thick su li be)), .double (soS ac (thick su li be))]))] := hD
    refine lv_dload hx hb dX0_spendYear_82 (lv_at hl 1 rfl) ?_
    have hP : va_P D vwCl ([(a, .inr (0, [.int w, .int z, .double (FP.dsub li (losv w li dr)), .double (FP.dadd ag 4607182418800017408), .double (soA ac (thick su li (FP.dsub li (losv w li dr)))), .double (soS ac (thick su li (FP.dsub li (losv w li dr))))]))]) H := by rw [hbe]; exact hP
    have hD : va_D A ([(a, .inr (0, [.int w, .int z, .double (FP.dsub li (losv w li dr)), .double (FP.dadd ag 4607182418800017408), .double (soA ac (thick su li (FP.dsub li (losv w li dr)))), .double (soS ac (thick su li (FP.dsub li (losv w li dr))))]))]) := by rw [hbe]; exact hD
    exact W.dret hx hb hr (fun t ht hW => ⟨⟨_, (), rfl, rfl, by rw [ht]; exact hP, va_K.moved hW.alike hK, hD⟩, hS.F ht⟩) hS.2.2 dX0_spendYear_84
set_option maxHeartbeats 4000000 in
set_option maxRecDepth 100000 in
/-- taste() -/
theorem metX0_taste (l : Launch) (D : va_G) (a : Nat) (w z : Int32) (li ag ac su : UInt64) (h0 : FP.dcmp li 0 ≠ none) (ht : FP.dcmp li 0 = some .gt → tasok ag ac su) : Met l yX0_taste wsX0_taste { frames := 1, cells := 0, slots := 0, locals := 20 } (Pr D [] [.ref a] ([(a, .inr (0, [.int w, .int z, .double li, .double ag, .double ac, .double su]))])) (vp_Sd (fun r : UInt64 => r = tasv li ag ac su)) 0 0 (fun _ => False) := by
  refine Met.ofW (cc := cX0_taste) (maxL := 5) (ret := (some .double)) (by decide) rfl ?_
  intro p e s m args below meth c s₁ B hml hv
  obtain ⟨rfl, hP, hK⟩ := hv
  have hx := B.exec
  have hb := B.bytes
  have hr := B.returns
  have hts := atoms_spec (ws := wsX0_taste) B.pre
  have hown : s.vm.findClass RX0 = some m.cls := findClass_of_methodNamed B.named
  have hlocks := B.notSynchronized
  have hl := lv_entry ([.ref a]) (n := 5) (Nat.le_of_ble_eq_true rfl)
  rw [lg_entry_eq]
  generalize (lg_sl ([.ref a]) ++ List.replicate (5 - (lg_sl ([.ref a])).length) Slot.unset).toArray = ls at hl ⊢
  have hl : lv_has ls 5 [(0, .ref a)] := hl
  refine lv_aload_n hx hb dX0_taste_0 rfl (lv_at hl 0 rfl) ?_
  refine kr_i (W.runV (As := []) (rest := []) ⟨hx, hb, hml, hown, hts⟩ (metX0_isEmpty l D a w z li ag ac su h0) (cwV 0 hts gX0_taste_X0_isEmpty rfl rfl rfl (by decide +kernel) ⟨Nat.le_of_ble_eq_true rfl, Nat.le_of_ble_eq_true rfl⟩) (prV 0 0 RX0 TX0 6 rfl rfl hP (hK.sub [] rfl)) rfl rfl hl.1 rfl (lv_room (Nat.le_of_ble_eq_true rfl)) dX0_taste_1 ⟨Nat.le_of_ble_eq_true rfl, Nat.le_of_ble_eq_true rfl⟩) ?_
  refine lv_if_eq (tgt := 9) hx hb dX0_taste_4 (by decide) (fun c4 => ?_) (fun c4 => ?_)
  · have c0 : FP.dcmp li 0 = some .gt := Classical.byContradiction fun h9 => by unfold emp at c4; rw [if_neg h9] at c4; exact absurd c4 (by decide)
    obtain ⟨t1, t2, t3, t4, t5, t6, t7⟩ := ht c0
    refine lv_aload_n hx hb dX0_taste_9 rfl (lv_at hl 0 rfl) ?_
    refine va_get (D := D) (ci := 0) (v := .double ac) (C := RX0) (T := TX0) (N := 6) hx hb hts (by decide +kernel) hown hK hP (0) rfl rfl 4 (by decide) (hts (.fieldLink RX0 23 "VinegarLoft$Barrel" "acid" "D") (by decide +kernel)) (fun _ h9 => h9) rfl dX0_taste_10 ?_
    refine lv_ldc2d hx hb hown (hts (.constantDouble RX0 65 4618441417868443648) (by decide +kernel)) dX0_taste_13 ?_
    refine lv_dsub hx hb dX0_taste_16 t1 ?_
    refine lv_dstore_n (lv' := [(1, .double (FP.dsub ac 4618441417868443648)), (0, .ref a)]) hx hb dX0_taste_17 rfl hl (by decide) rfl (fun ls hl => ?_)
    refine lv_dload_n hx hb dX0_taste_18 rfl (lv_at hl 0 rfl) ?_
    refine kd_0 hx hb dX0_taste_19 ?_
    refine kd_ge (tgt := 29) hx hb dX0_taste_20 dX0_taste_21 (by decide) t2 (fun c20 => ?_) (fun c20 => ?_)
    · refine lv_dload_n hx hb dX0_taste_29 rfl (lv_at hl 0 rfl) ?_
      refine kd_eq (show (FP.dsub ac 4618441417868443648) = absv (FP.dsub ac 4618441417868443648) from by unfold absv; rw [if_neg c20]) ?_
      refine lv_dstore_n (lv' := [(3, .double (absv (FP.dsub ac 4618441417868443648))), (1, .double (FP.dsub ac 4618441417868443648)), (0, .ref a)]) hx hb dX0_taste_30 rfl hl (by decide) rfl (fun ls hl => ?_)
      refine lv_ldc2d hx hb hown (hts (.constantDouble RX0 67 4602678819172646912) (by decide +kernel)) dX0_taste_31 ?_
      refine lv_aload_n hx hb dX0_taste_34 rfl (lv_at hl 2 rfl) ?_
      refine va_get (D := D) (ci := 0) (v := .double ag) (C := RX0) (T := TX0) (N := 6) hx hb hts (by decide +kernel) hown hK hP (0) rfl rfl 3 (by decide) (hts (.fieldLink RX0 20 "VinegarLoft$Barrel" "age" "D") (by decide +kernel)) (fun _ h9 => h9) rfl dX0_taste_35 ?_
      refine lv_dmul hx hb dX0_taste_38 t3 ?_
      refine lv_ldc2d hx hb hown (hts (.constantDouble RX0 59 4605380978949069210) (by decide +kernel)) dX0_taste_39 ?_
      refine lv_aload_n hx hb dX0_taste_42 rfl (lv_at hl 2 rfl) ?_
      refine va_get (D := D) (ci := 0) (v := .double su) (C := RX0) (T := TX0) (N := 6) hx hb hts (by decide +kernel) hown hK hP (0) rfl rfl 5 (by decide) (hts (.fieldLink RX0 26 "VinegarLoft$Barrel" "sugar" "D") (by decide +kernel)) (fun _ h9 => h9) rfl dX0_taste_43 ?_
      refine lv_dmul hx hb dX0_taste_46 t4 ?_
      refine lv_dadd hx hb dX0_taste_47 t5 ?_
      refine lv_ldc2d hx hb hown (hts (.constantDouble RX0 69 4613937818241073152) (by decide +kernel)) dX0_taste_48 ?_
      refine lv_dload_n hx hb dX0_taste_51 rfl (lv_at hl 0 rfl) ?_
      refine lv_dmul hx hb dX0_taste_52 t6 ?_
      refine lv_dsub hx hb dX0_taste_53 t7 ?_
      exact W.dret hx hb hr (fun t ht hW => ⟨_, rfl, by unfold tasv; rw [if_pos c0], ht⟩) (fun q hq => absurd hq List.not_mem_nil) dX0_taste_54
    · refine lv_dload_n hx hb dX0_taste_24 rfl (lv_at hl 0 rfl) ?_
      refine lv_dneg hx hb dX0_taste_25 ?_
      refine lv_goto (tgt := 30) hx hb dX0_taste_26 (by decide) ?_
      refine kd_eq (show (FP.dneg (FP.dsub ac 4618441417868443648)) = absv (FP.dsub ac 4618441417868443648) from by unfold absv; rw [if_pos c20]) ?_
      refine lv_dstore_n (lv' := [(3, .double (absv (FP.dsub ac 4618441417868443648))), (1, .double (FP.dsub ac 4618441417868443648)), (0, .ref a)]) hx hb dX0_taste_30 rfl hl (by decide) rfl (fun ls hl => ?_)
      refine lv_ldc2d hx hb hown (hts (.constantDouble RX0 67 4602678819172646912) (by decide +kernel)) dX0_taste_31 ?_
      refine lv_aload_n hx hb dX0_taste_34 rfl (lv_at hl 2 rfl) ?_
      refine va_get (D := D) (ci := 0) (v := .double ag) (C := RX0) (T := TX0) (N := 6) hx hb hts (by decide +kernel) hown hK hP (0) rfl rfl 3 (by decide) (hts (.fieldLink RX0 20 "VinegarLoft$Barrel" "age" "D") (by decide +kernel)) (fun _ h9 => h9) rfl dX0_taste_35 ?_
      refine lv_dmul hx hb dX0_taste_38 t3 ?_
      refine lv_ldc2d hx hb hown (hts (.constantDouble RX0 59 4605380978949069210) (by decide +kernel)) dX0_taste_39 ?_
      refine lv_aload_n hx hb dX0_taste_42 rfl (lv_at hl 2 rfl) ?_
      refine va_get (D := D) (ci := 0) (v := .double su) (C := RX0) (T := TX0) (N := 6) hx hb hts (by decide +kernel) hown hK hP (0) rfl rfl 5 (by decide) (hts (.fieldLink RX0 26 "VinegarLoft$Barrel" "sugar" "D") (by decide +kernel)) (fun _ h9 => h9) rfl dX0_taste_43 ?_
      refine lv_dmul hx hb dX0_taste_46 t4 ?_
      refine lv_dadd hx hb dX0_taste_47 t5 ?_
      refine lv_ldc2d hx hb hown (hts (.constantDouble RX0 69 4613937818241073152) (by decide +kernel)) dX0_taste_48 ?_
      refine lv_dload_n hx hb dX0_taste_51 rfl (lv_at hl 0 rfl) ?_
      refine lv_dmul hx hb dX0_taste_52 t6 ?_
      refine lv_dsub hx hb dX0_taste_53 t7 ?_
      exact W.dret hx hb hr (fun t ht hW => ⟨_, rfl, by unfold tasv; rw [if_pos c0], ht⟩) (fun q hq => absurd hq List.not_mem_nil) dX0_taste_54
  · refine kd_0 hx hb dX0_taste_7 ?_
    exact W.dret hx hb hr (fun t ht hW => ⟨_, rfl, by unfold tasv; rw [if_neg (fun h9 => by unfold emp at c4; rw [if_pos h9] at c4; exact c4 rfl)], ht⟩) (fun q hq => absurd hq List.not_mem_nil) dX0_taste_8
set_option maxHeartbeats 4000000 in
set_option maxRecDepth 100000 in
/-- copyFrom(other) -/
theorem metX0_copyFrom (l : Launch) (D : va_G) (sz : Nat) (a : Nat) (w z : Int32) (li ag ac su : UInt64) (b : Nat) (w2 z2 : Int32) (li2 ag2 ac2 su2 : UInt64)  : Met l yX0_copyFrom wsX0_copyFrom { frames := 0, cells := 0, slots := 0, locals := 0 } (Pm D [] [.ref a, .ref b] ([(a, .inr (0, [.int w, .int z, .double li, .double ag, .double ac, .double su])), (b, .inr (0, [.int w2, .int z2, .double li2, .double ag2, .double ac2, .double su2]))]) sz) (va_Qv (fun (_ : Unit) => True) (Bm D [] (va_A ([(a, .inr (0, [.int w, .int z, .double li, .double ag, .double ac, .double su])), (b, .inr (0, [.int w2, .int z2, .double li2, .double ag2, .double ac2, .double su2]))]) sz) ([(a, .inr (0, [.int w2, .int z2, .double li2, .double ag2, .double ac2, .double su2])), (b, .inr (0, [.int w2, .int z2, .double li2, .double ag2, .double ac2, .double su2]))])) (va_A ([(a, .inr (0, [.int w, .int z, .double li, .double ag, .double ac, .double su])), (b, .inr (0, [.int w2, .int z2, .double li2, .double ag2, .double ac2, .double su2]))]) sz)) 0 0 (va_A ([(a, .inr (0, [.int w, .int z, .double li, .double ag, .double ac, .double su])), (b, .inr (0, [.int w2, .int z2, .double li2, .double ag2, .double ac2, .double su2]))]) sz) := by
  refine Met.ofW (cc := cX0_copyFrom) (maxL := 2) (ret := none) (by decide) rfl ?_
  intro p e s m args below meth c s₁ B hml hv
  obtain ⟨rfl, hsz, hP, hK, hD0⟩ := hv
  have hx := B.exec
  have hb := B.bytes
  have hr := B.returns
  have hts := atoms_spec (ws := wsX0_copyFrom) B.pre
  have hown : s.vm.findClass RX0 = some m.cls := findClass_of_methodNamed B.named
  have hlocks := B.notSynchronized
  subst hsz
  have hD := hD0.self (sz := s.heap.size)
  generalize hAe : va_A ([(a, .inr (0, [.int w, .int z, .double li, .double ag, .double ac, .double su])), (b, .inr (0, [.int w2, .int z2, .double li2, .double ag2, .double ac2, .double su2]))]) s.heap.size = A at hD ⊢
  have hA : ∀ q : Nat, s.heap.size ≤ q → A q := fun q h => by rw [← hAe]; exact Or.inr h
  refine kW_H (fun H hH => ?_)
  have hP : va_P D vwCl ([(a, .inr (0, [.int w, .int z, .double li, .double ag, .double ac, .double su])), (b, .inr (0, [.int w2, .int z2, .double li2, .double ag2, .double ac2, .double su2]))]) H := by rw [hH]; exact hP
  have hS : va_S A s.heap H [] := by rw [hH]; exact va_S.rf
  have hl := lv_entry ([.ref a, .ref b]) (n := 2) (Nat.le_of_ble_eq_true rfl)
  rw [lg_entry_eq]
  generalize (lg_sl ([.ref a, .ref b]) ++ List.replicate (2 - (lg_sl ([.ref a, .ref b])).length) Slot.unset).toArray = ls at hl ⊢
  have hl : lv_has ls 2 [(0, .ref a), (1, .ref b)] := hl
  refine lv_aload_n hx hb dX0_copyFrom_0 rfl (lv_at hl 0 rfl) ?_
  refine lv_aload_n hx hb dX0_copyFrom_1 rfl (lv_at hl 1 rfl) ?_
  refine va_get (D := D) (ci := 0) (v := .int w2) (C := RX0) (T := TX0) (N := 6) hx hb hts (by decide +kernel) hown hK hP (1) rfl rfl 0 (by decide) (hts (.fieldLink RX0 7 "VinegarLoft$Barrel" "wood" "I") (by decide +kernel)) (fun _ h9 => h9) rfl dX0_copyFrom_2 ?_
  refine va_put (D := D) (ci := 0) (v := .int w2) (ty := .int) (C := RX0) (T := TX0) (N := 6) hx hb hts (by decide +kernel) tyX0 tyX0_ok nmX0 hown hK hP hD hS (0) rfl rfl 0 (by decide) (hts (.fieldLink RX0 7 "VinegarLoft$Barrel" "wood" "I") (by decide +kernel)) (fun _ h9 => h9) rfl (by decide +kernel) rfl rfl (Nat.le_of_ble_eq_true rfl) dX0_copyFrom_5 (fun H locs hP hD hS => ?_)
  have hP : va_P D vwCl [(a, .inr (0, [.int w2, .int z, .double li, .double ag, .double ac, .double su])), (b, .inr (0, [.int w2, .int z2, .double li2, .double ag2, .double ac2, .double su2]))] H := hP
  have hD : va_D A [(a, .inr (0, [.int w2, .int z, .double li, .double ag, .double ac, .double su])), (b, .inr (0, [.int w2, .int z2, .double li2, .double ag2, .double ac2, .double su2]))] := hD
  refine lv_aload_n hx hb dX0_copyFrom_8 rfl (lv_at hl 0 rfl) ?_
  refine lv_aload_n hx hb dX0_copyFrom_9 rfl (lv_at hl 1 rfl) ?_
  refine va_get (D := D) (ci := 0) (v := .int z2) (C := RX0) (T := TX0) (N := 6) hx hb hts (by decide +kernel) hown hK hP (1) rfl rfl 1 (by decide) (hts (.fieldLink RX0 13 "VinegarLoft$Barrel" "size" "I") (by decide +kernel)) (fun _ h9 => h9) rfl dX0_copyFrom_10 ?_
  refine va_put (D := D) (ci := 0) (v := .int z2) (ty := .int) (C := RX0) (T := TX0) (N := 6) hx hb hts (by decide +kernel) tyX0 tyX0_ok nmX0 hown hK hP hD hS (0) rfl rfl 1 (by decide) (hts (.fieldLink RX0 13 "VinegarLoft$Barrel" "size" "I") (by decide +kernel)) (fun _ h9 => h9) rfl (by decide +kernel) rfl rfl (Nat.le_of_ble_eq_true rfl) dX0_copyFrom_13 (fun H locs hP hD hS => ?_)
  have hP : va_P D vwCl [(a, .inr (0, [.int w2, .int z2, .double li, .double ag, .double ac, .double su])), (b, .inr (0, [.int w2, .int z2, .double li2, .double ag2, .double ac2, .double su2]))] H := hP
  have hD : va_D A [(a, .inr (0, [.int w2, .int z2, .double li, .double ag, .double ac, .double su])), (b, .inr (0, [.int w2, .int z2, .double li2, .double ag2, .double ac2, .double su2]))] := hD
  refine lv_aload_n hx hb dX0_copyFrom_16 rfl (lv_at hl 0 rfl) ?_
  refine lv_aload_n hx hb dX0_copyFrom_17 rfl (lv_at hl 1 rfl) ?_
  refine va_get (D := D) (ci := 0) (v := .double li2) (C := RX0) (T := TX0) (N := 6) hx hb hts (by decide +kernel) hown hK hP (1) rfl rfl 2 (by decide) (hts (.fieldLink RX0 16 "VinegarLoft$Barrel" "litres" "D") (by decide +kernel)) (fun _ h9 => h9) rfl dX0_copyFrom_18 ?_
  refine va_put (D := D) (ci := 0) (v := .double li2) (ty := .double) (C := RX0) (T := TX0) (N := 6) hx hb hts (by decide +kernel) tyX0 tyX0_ok nmX0 hown hK hP hD hS (0) rfl rfl 2 (by decide) (hts (.fieldLink RX0 16 "VinegarLoft$Barrel" "litres" "D") (by decide +kernel)) (fun _ h9 => h9) rfl (by decide +kernel) rfl rfl (Nat.le_of_ble_eq_true rfl) dX0_copyFrom_21 (fun H locs hP hD hS => ?_)
  have hP : va_P D vwCl [(a, .inr (0, [.int w2, .int z2, .double li2, .double ag, .double ac, .double su])), (b, .inr (0, [.int w2, .int z2, .double li2, .double ag2, .double ac2, .double su2]))] H := hP
  have hD : va_D A [(a, .inr (0, [.int w2, .int z2, .double li2, .double ag, .double ac, .double su])), (b, .inr (0, [.int w2, .int z2, .double li2, .double ag2, .double ac2, .double su2]))] := hD
  refine lv_aload_n hx hb dX0_copyFrom_24 rfl (lv_at hl 0 rfl) ?_
  refine lv_aload_n hx hb dX0_copyFrom_25 rfl (lv_at hl 1 rfl) ?_
  refine va_get (D := D) (ci := 0) (v := .double ag2) (C := RX0) (T := TX0) (N := 6) hx hb hts (by decide +kernel) hown hK hP (1) rfl rfl 3 (by decide) (hts (.fieldLink RX0 20 "VinegarLoft$Barrel" "age" "D") (by decide +kernel)) (fun _ h9 => h9) rfl dX0_copyFrom_26 ?_
  refine va_put (D := D) (ci := 0) (v := .double ag2) (ty := .double) (C := RX0) (T := TX0) (N := 6) hx hb hts (by decide +kernel) tyX0 tyX0_ok nmX0 hown hK hP hD hS (0) rfl rfl 3 (by decide) (hts (.fieldLink RX0 20 "VinegarLoft$Barrel" "age" "D") (by decide +kernel)) (fun _ h9 => h9) rfl (by decide +kernel) rfl rfl (Nat.le_of_ble_eq_true rfl) dX0_copyFrom_29 (fun H locs hP hD hS => ?_)
  have hP : va_P D vwCl [(a, .inr (0, [.int w2, .int z2, .double li2, .double ag2, .double ac, .double su])), (b, .inr (0, [.int w2, .int z2, .double li2, .double ag2, .double ac2, .double su2]))] H := hP
  have hD : va_D A [(a, .inr (0, [.int w2, .int z2, .double li2, .double ag2, .double ac, .double su])), (b, .inr (0, [.int w2, .int z2, .double li2, .double ag2, .double ac2, .double su2]))] := hD
  refine lv_aload_n hx hb dX0_copyFrom_32 rfl (lv_at hl 0 rfl) ?_
  refine lv_aload_n hx hb dX0_copyFrom_33 rfl (lv_at hl 1 rfl) ?_
  refine va_get (D := D) (ci := 0) (v := .double ac2) (C := RX0) (T := TX0) (N := 6) hx hb hts (by decide +kernel) hown hK hP (1) rfl rfl 4 (by decide) (hts (.fieldLink RX0 23 "VinegarLoft$Barrel" "acid" "D") (by decide +kernel)) (fun _ h9 => h9) rfl dX0_copyFrom_34 ?_
  refine va_put (D := D) (ci := 0) (v := .double ac2) (ty := .double) (C := RX0) (T := TX0) (N := 6) hx hb hts (by decide +kernel) tyX0 tyX0_ok nmX0 hown hK hP hD hS (0) rfl rfl 4 (by decide) (hts (.fieldLink RX0 23 "VinegarLoft$Barrel" "acid" "D") (by decide +kernel)) (fun _ h9 => h9) rfl (by decide +kernel) rfl rfl (Nat.le_of_ble_eq_true rfl) dX0_copyFrom_37 (fun H locs hP hD hS => ?_)
  have hP : va_P D vwCl [(a, .inr (0, [.int w2, .int z2, .double li2, .double ag2, .double ac2, .double su])), (b, .inr (0, [.int w2, .int z2, .double li2, .double ag2, .double ac2, .double su2]))] H := hP
  have hD : va_D A [(a, .inr (0, [.int w2, .int z2, .double li2, .double ag2, .double ac2, .double su])), (b, .inr (0, [.int w2, .int z2, .double li2, .double ag2, .double ac2, .double su2]))] := hD
  refine lv_aload_n hx hb dX0_copyFrom_40 rfl (lv_at hl 0 rfl) ?_
  refine lv_aload_n hx hb dX0_copyFrom_41 rfl (lv_at hl 1 rfl) ?_
  refine va_get (D := D) (ci := 0) (v := .double su2) (C := RX0) (T := TX0) (N := 6) hx hb hts (by decide +kernel) hown hK hP (1) rfl rfl 5 (by decide) (hts (.fieldLink RX0 26 "VinegarLoft$Barrel" "sugar" "D") (by decide +kernel)) (fun _ h9 => h9) rfl dX0_copyFrom_42 ?_
  refine va_put (D := D) (ci := 0) (v := .double su2) (ty := .double) (C := RX0) (T := TX0) (N := 6) hx hb hts (by decide +kernel) tyX0 tyX0_ok nmX0 hown hK hP hD hS (0) rfl rfl 5 (by decide) (hts (.fieldLink RX0 26 "VinegarLoft$Barrel" "sugar" "D") (by decide +kernel)) (fun _ h9 => h9) rfl (by decide +kernel) rfl rfl (Nat.le_of_ble_eq_true rfl) dX0_copyFrom_45 (fun H locs hP hD hS => ?_)
  have hP : va_P D vwCl [(a, .inr (0, [.int w2, .int z2, .double li2, .double ag2, .double ac2, .double su2])), (b, .inr (0, [.int w2, .int z2, .double li2, .double ag2, .double ac2, .double su2]))] H := hP
  have hD : va_D A [(a, .inr (0, [.int w2, .int z2, .double li2, .double ag2, .double ac2, .double su2])), (b, .inr (0, [.int w2, .int z2, .double li2, .double ag2, .double ac2, .double su2]))] := hD
  exact W.vret hx hb hr (fun t ht hW => ⟨⟨(), rfl, trivial, by rw [ht]; exact hP, va_K.moved hW.alike hK, hD⟩, hS.F ht⟩) hS.2.2 dX0_copyFrom_48
end
section
/-! what a row does, out of one table h: litres (0..7), age (8..), acid (16..), sugar (24..) -/
theorem nI_p {n : Nat} (h : 0 < n) : nI n - 1 = nI (n - 1) := pk_sub (a := n) (b := 1) h
theorem nI_le0 {n : Nat} (hn : n < 2 ^ 31) : nI n ≤ 0 ↔ n = 0 := by
  constructor
  · intro h
    exact Nat.eq_zero_of_not_pos fun h0 => nI_nle h0 hn h
  · rintro rfl
    decide
def encO (o : Option Nat) : Int32 := match o with
  | none => -1
  | some b => nI b
theorem encO_m1 {o : Option Nat} (h : ∀ b, o = some b → b < 8) : encO o = -1 ↔ o = none := by
  cases o with
  | none => exact ⟨fun _ => rfl, fun _ => rfl⟩
  | some b =>
    refine ⟨fun e => ?_, fun e => nomatch e⟩
    have hb := h b rfl
    have h1 := congrArg Int32.toInt e
    rw [show (encO (some b)).toInt = (nI b).toInt from rfl, nI_toInt (by omega)] at h1
    have h2 : (-1 : Int32).toInt = -1 := by decide
    omega
/-- litres for the next barrel -/
def lgN (zs : Nat → Int32) (n : Nat) : Int32 := if n = 0 then 100 else zs (n - 1) - 1
def lesv (a b : UInt64) : UInt64 := if FP.dcmp a b = some .lt then a else b
/-- must into the first barrel -/
def poH (h : Nat → UInt64) (must : UInt64) : Nat → UInt64 := if FP.dcmp must 0 = some .gt then hset h 0 (FP.dadd (h 0) must) (mixv (h 0) (h 8) must 0) (mixv (h 0) (h 16) must 4607182418800017408) (mixv (h 0) (h 24) must 4629137466983448576) else h
def poR (must : UInt64) : UInt64 := if FP.dcmp must 0 = some .gt then must else 0
def musv (z0 : Int32) (l0 x : UInt64) : UInt64 := lesv x (FP.dsub (FP.i2d z0) l0)
def mixok3 (h : Nat → UInt64) (b : Nat) (w ag ac su : UInt64) : Prop := mixok (h b) (h (8 + b)) w ag ∧ mixok (h b) (h (16 + b)) w ac ∧ mixok (h b) (h (24 + b)) w su
def pook (z0 : Int32) (h : Nat → UInt64) (x : UInt64) : Prop := vf_n64 (FP.dsub (FP.i2d z0) (h 0)) ∧ FP.dcmp x (FP.dsub (FP.i2d z0) (h 0)) ≠ none ∧ FP.dcmp (musv z0 (h 0) x) 0 ≠ none ∧ (FP.dcmp (musv z0 (h 0) x) 0 = some .gt → mixok3 h 0 (musv z0 (h 0) x) 0 4607182418800017408 4629137466983448576)
/-- what goes from a barrel of l1 litres into one of size z2 with l2 -/
def goev (z2 : Int32) (l2 l1 : UInt64) : UInt64 := lesv (FP.dsub (FP.dmul 4606281698874543309 (FP.i2d z2)) l2) (FP.dmul 4602678819172646912 l1)
def paok (z2 : Int32) (l1 g1 a1 s1 l2 g2 a2 s2 : UInt64) : Prop :=
  vf_n64 (FP.dmul 4606281698874543309 (FP.i2d z2)) ∧ vf_n64 (FP.dsub (FP.dmul 4606281698874543309 (FP.i2d z2)) l2) ∧ vf_n64 (FP.dmul 4602678819172646912 l1) ∧ FP.dcmp (FP.dsub (FP.dmul 4606281698874543309 (FP.i2d z2)) l2) (FP.dmul 4602678819172646912 l1) ≠ none ∧ FP.dcmp (goev z2 l2 l1) 0 ≠ none ∧
  (FP.dcmp (goev z2 l2 l1) 0 = some .gt → mixok l2 g2 (goev z2 l2 l1) g1 ∧ mixok l2 a2 (goev z2 l2 l1) a1 ∧ mixok l2 s2 (goev z2 l2 l1) s1 ∧ vf_n64 (FP.dsub l1 (goev z2 l2 l1)) ∧ FP.dcmp (FP.dsub l1 (goev z2 l2 l1)) 0 = some .gt)
/-- barrel k + 1 gets from barrel k -/
def paG (zs : Nat → Int32) (h : Nat → UInt64) (k : Nat) : UInt64 := goev (zs (k + 1)) (h (k + 1)) (h k)
def paH (zs : Nat → Int32) (h : Nat → UInt64) (k : Nat) : Nat → UInt64 := if FP.dcmp (paG zs h k) 0 = some .gt then hset (hset h (k + 1) (FP.dadd (h (k + 1)) (paG zs h k)) (mixv (h (k + 1)) (h (8 + (k + 1))) (paG zs h k) (h (8 + k))) (mixv (h (k + 1)) (h (16 + (k + 1))) (paG zs h k) (h (16 + k))) (mixv (h (k + 1)) (h (24 + (k + 1))) (paG zs h k) (h (24 + k)))) k (FP.dsub (h k) (paG zs h k)) (h (8 + k)) (h (16 + k)) (h (24 + k)) else h
def paS (zs : Nat → Int32) (h : Nat → UInt64) (k : Nat) (sum : UInt64) : UInt64 := if FP.dcmp (paG zs h k) 0 = some .gt then FP.dadd sum (paG zs h k) else sum
/-- from barrel k + 1 down to the second one -/
def toH (zs : Nat → Int32) : Nat → (Nat → UInt64) → Nat → UInt64
  | 0, h => h
  | k + 1, h => toH zs k (paH zs h k)
def toS (zs : Nat → Int32) : Nat → (Nat → UInt64) → UInt64 → UInt64
  | 0, _, sum => sum
  | k + 1, h, sum => toS zs k (paH zs h k) (paS zs h k sum)
def took (zs : Nat → Int32) : Nat → (Nat → UInt64) → UInt64 → Prop
  | 0, _, _ => True
  | k + 1, h, sum => (paok (zs (k + 1)) (h k) (h (8 + k)) (h (16 + k)) (h (24 + k)) (h (k + 1)) (h (8 + (k + 1))) (h (16 + (k + 1))) (h (24 + (k + 1))) ∧ NN sum ∧ (FP.dcmp (paG zs h k) 0 = some .gt → vf_n64 (FP.dadd sum (paG zs h k)))) ∧ took zs k (paH zs h k) (paS zs h k sum)
/-- the draught -/
def drw (wm : Int32) : UInt64 := FP.dadd 4607182418800017408 (FP.dmul 4587366580439587226 (FP.i2d (wm - 18)))
def drv (wm : Int32) : UInt64 := if FP.dcmp (drw wm) 4596373779694328218 = some .lt then 4596373779694328218 else drw wm
def drok (wm : Int32) : Prop := vf_n64 (FP.dmul 4587366580439587226 (FP.i2d (wm - 18))) ∧ vf_n64 (drw wm) ∧ FP.dcmp (drw wm) 4596373779694328218 ≠ none
/-- a year in barrel k -/
def yrH (wd : Nat → Int32) (dr : UInt64) (h : Nat → UInt64) (k : Nat) : Nat → UInt64 := if FP.dcmp (h k) 0 = some .gt then hset h k (FP.dsub (h k) (losv (wd k) (h k) dr)) (FP.dadd (h (8 + k)) 4607182418800017408) (soA (h (16 + k)) (thick (h (24 + k)) (h k) (FP.dsub (h k) (losv (wd k) (h k) dr)))) (soS (h (16 + k)) (thick (h (24 + k)) (h k) (FP.dsub (h k) (losv (wd k) (h k) dr)))) else h
def yrS (wd : Nat → Int32) (dr : UInt64) (h : Nat → UInt64) (k : Nat) (sum : UInt64) : UInt64 := if FP.dcmp (h k) 0 = some .gt then FP.dadd sum (losv (wd k) (h k) dr) else sum
/-- .. in the first k barrels -/
def agH (wd : Nat → Int32) (dr : UInt64) (h : Nat → UInt64) : Nat → Nat → UInt64
  | 0 => h
  | k + 1 => yrH wd dr (agH wd dr h k) k
def agS (wd : Nat → Int32) (dr : UInt64) (h : Nat → UInt64) : Nat → UInt64
  | 0 => 0
  | k + 1 => yrS wd dr (agH wd dr h k) k (agS wd dr h k)
def agok (wd : Nat → Int32) (dr : UInt64) (h : Nat → UInt64) (n : Nat) : Prop := ∀ k, k < n → FP.dcmp (agH wd dr h k k) 0 ≠ none ∧ (FP.dcmp (agH wd dr h k k) 0 = some .gt → yearok (wd k) (agH wd dr h k k) (agH wd dr h k (8 + k)) (agH wd dr h k (16 + k)) (agH wd dr h k (24 + k)) dr ∧ vf_n64 (FP.dadd (agS wd dr h k) (losv (wd k) (agH wd dr h k k) dr)))
/-- the oldest of the first k -/
def elt (h : Nat → UInt64) (k : Nat) (o : Option Nat) : Bool := decide (FP.dcmp (h k) 0 = some .gt) && (match o with
  | none => true
  | some b => decide (FP.dcmp (h (8 + k)) (h (8 + b)) ≠ some .lt))
def elO (h : Nat → UInt64) : Nat → Option Nat
  | 0 => none
  | k + 1 => if elt h k (elO h k) = true then some k else elO h k
def elG (h : Nat → UInt64) (o : Option Nat) : UInt64 := match o with
  | none => 0
  | some b => h (8 + b)
def NNr (n : Nat) (h : Nat → UInt64) : Prop := ∀ i, i < n → NN (h i) ∧ NN (h (8 + i))
theorem elO_lt (h : Nat → UInt64) : ∀ (k b : Nat), elO h k = some b → b < k
  | 0, b, e => nomatch e
  | k + 1, b, e => by
    unfold elO at e
    split at e
    · cases e; omega
    · have := elO_lt h k b e; omega
/-- the quota of a year -/
def quv (h : Nat → UInt64) (o : Option Nat) : UInt64 := match o with
  | none => 0
  | some b => FP.dmul 4598175219545276416 (h b)
/-- bottles that are ready -/
def leB (h : Nat → UInt64) (q : UInt64) (b : Nat) : UInt64 := lesv q (h b)
def rdv (h : Nat → UInt64) (n : Nat) (df : Int32) (q : UInt64) : Int32 := match elO h n with
  | none => 0
  | some b => if nI b = df then (if FP.dcmp (h (8 + b)) 4622945017495814144 = some .lt ∨ FP.dcmp (h (24 + b)) 4627730092099895296 = some .lt then 0 else if FP.dcmp (leB h q b) 0 = some .gt then FP.d2i (FP.ddiv (leB h q b) 4591870180066957722) else 0) else 0
def rdok (h : Nat → UInt64) (n : Nat) (q : UInt64) : Prop := ∀ b, b < n → FP.dcmp (h (8 + b)) 4622945017495814144 ≠ none ∧ FP.dcmp (h (24 + b)) 4627730092099895296 ≠ none ∧ FP.dcmp q (h b) ≠ none ∧ FP.dcmp (leB h q b) 0 ≠ none ∧ (FP.dcmp (leB h q b) 0 = some .gt → vf_n64 (FP.ddiv (leB h q b) 4591870180066957722))
/-- litres of some bottles -/
def botv (x : Int32) : UInt64 := FP.dmul (FP.i2d x) 4591870180066957722
/-- barrel b with less -/
def tkH (h : Nat → UInt64) (b : Nat) (less : UInt64) : Nat → UInt64 := if FP.dcmp (FP.dsub (h b) less) 0 = some .gt then hset h b (FP.dsub (h b) less) (h (8 + b)) (h (16 + b)) (h (24 + b)) else hset h b 0 0 0 0
/-- sums over the first k barrels -/
def suL (h : Nat → UInt64) : Nat → UInt64
  | 0 => 0
  | k + 1 => FP.dadd (suL h k) (h k)
def suP (f : Nat) (h : Nat → UInt64) : Nat → UInt64
  | 0 => 0
  | k + 1 => FP.dadd (suP f h k) (FP.dmul (h k) (h (f + k)))
def suLok (h : Nat → UInt64) (n : Nat) : Prop := ∀ k, k < n → vf_n64 (FP.dadd (suL h k) (h k))
def suPok (f : Nat) (h : Nat → UInt64) (n : Nat) : Prop := ∀ k, k < n → vf_n64 (FP.dmul (h k) (h (f + k))) ∧ vf_n64 (FP.dadd (suP f h k) (FP.dmul (h k) (h (f + k))))
/-- the first k barrels of g, the others of f -/
def cpI (k : Nat) (f g : Nat → Int32) : Nat → Int32 := fun i => if i < k then g i else f i
def cpH (k : Nat) (f g : Nat → UInt64) : Nat → UInt64 := fun i => if i < 32 ∧ i % 8 < k then g i else f i
theorem cpI_0 {f g : Nat → Int32} : cpI 0 f g = f := by funext i; simp [cpI]
theorem cpH_0 {f g : Nat → UInt64} : cpH 0 f g = f := by funext i; simp [cpH]
theorem cpI_s {f g : Nat → Int32} {k : Nat} : va_up (cpI k f g) k (g k) = cpI (k + 1) f g := by
  funext i
  unfold va_up cpI
  by_cases h1 : i = k
  · subst h1; simp
  · by_cases h2 : i < k
    · rw [if_neg h1, if_pos h2, if_pos (by omega)]
    · rw [if_neg h1, if_neg h2, if_neg (by omega)]
theorem cpH_s {f g : Nat → UInt64} {k : Nat} (hk : k < 8) : hset (cpH k f g) k (g k) (g (8 + k)) (g (16 + k)) (g (24 + k)) = cpH (k + 1) f g := by
  funext i
  unfold hset cpH
  by_cases h1 : i = k
  · subst h1; rw [if_pos rfl, if_pos ⟨by omega, by omega⟩]
  · rw [if_neg h1]
    by_cases h2 : i = 8 + k
    · subst h2; rw [if_pos rfl, if_pos ⟨by omega, by omega⟩]
    · rw [if_neg h2]
      by_cases h3 : i = 16 + k
      · subst h3; rw [if_pos rfl, if_pos ⟨by omega, by omega⟩]
      · rw [if_neg h3]
        by_cases h4 : i = 24 + k
        · subst h4; rw [if_pos rfl, if_pos ⟨by omega, by omega⟩]
        · rw [if_neg h4]
          by_cases h5 : i < 32 ∧ i % 8 < k
          · rw [if_pos h5, if_pos ⟨h5.1, by omega⟩]
          · rw [if_neg h5, if_neg (fun h6 => h5 ⟨h6.1, by omega⟩)]
section LOOPS
variable {p : Program} {l : Launch} {e : Env} {R : Room} {s : State} {m : MethodId} {args : Array Value} {below : List Frame} {meth : Method} {c : Code} {H : Heap} {locs : List Loc} {cells slots : Nat} {Q : State → Prop} {pc : Nat} {ls : Array Slot}
/-- a loop that counts up -/
theorem kW_up (N : Nat) (I : Nat → Heap → List Loc → Array Slot → Prop)
    (hs : ∀ (i : Nat) (H : Heap) (locs : List Loc) (ls : Array Slot), i < N → I i H locs ls → (∀ (H : Heap) (locs : List Loc) (ls : Array Slot), I (i + 1) H locs ls → W p l e R s m args below meth c H locs cells slots Q (F0 m pc ls [])) → W p l e R s m args below meth c H locs cells slots Q (F0 m pc ls []))
    (he : ∀ (H : Heap) (locs : List Loc) (ls : Array Slot), I N H locs ls → W p l e R s m args below meth c H locs cells slots Q (F0 m pc ls []))
    (h0 : I 0 H locs ls) : W p l e R s m args below meth c H locs cells slots Q (F0 m pc ls []) := by
  have key : ∀ (k i : Nat), i + k = N → ∀ (H : Heap) (locs : List Loc) (ls : Array Slot), I i H locs ls → W p l e R s m args below meth c H locs cells slots Q (F0 m pc ls []) := by
    intro k
    induction k with
    | zero =>
      intro i hi H locs ls hI
      have : i = N := by omega
      subst this
      exact he H locs ls hI
    | succ k ih =>
      intro i hi H locs ls hI
      exact hs i H locs ls (by omega) hI (fun H locs ls h => ih (i + 1) (by omega) H locs ls h)
  exact key N 0 (by omega) H locs ls h0
/-- a loop that counts down -/
theorem kW_dn (N : Nat) (I : Nat → Heap → List Loc → Array Slot → Prop)
    (hs : ∀ (i : Nat) (H : Heap) (locs : List Loc) (ls : Array Slot), i < N → I (i + 1) H locs ls → (∀ (H : Heap) (locs : List Loc) (ls : Array Slot), I i H locs ls → W p l e R s m args below meth c H locs cells slots Q (F0 m pc ls [])) → W p l e R s m args below meth c H locs cells slots Q (F0 m pc ls []))
    (he : ∀ (H : Heap) (locs : List Loc) (ls : Array Slot), I 0 H locs ls → W p l e R s m args below meth c H locs cells slots Q (F0 m pc ls []))
    (h0 : I N H locs ls) : W p l e R s m args below meth c H locs cells slots Q (F0 m pc ls []) := by
  have key : ∀ (i : Nat), i ≤ N → ∀ (H : Heap) (locs : List Loc) (ls : Array Slot), I i H locs ls → W p l e R s m args below meth c H locs cells slots Q (F0 m pc ls []) := by
    intro i
    induction i with
    | zero => intro _ H locs ls hI; exact he H locs ls hI
    | succ i ih =>
      intro hi H locs ls hI
      exact hs i H locs ls (by omega) hI (fun H locs ls h => ih (by omega) H locs ls h)
  exact key N (Nat.le_refl N) H locs ls h0
/-- a loop that counts up and writes nothing -/
theorem kW_upR (N : Nat) (I : Nat → Array Slot → Prop)
    (hs : ∀ (i : Nat) (ls : Array Slot), i < N → I i ls → (∀ (ls : Array Slot), I (i + 1) ls → W p l e R s m args below meth c H locs cells slots Q (F0 m pc ls [])) → W p l e R s m args below meth c H locs cells slots Q (F0 m pc ls []))
    (he : ∀ (ls : Array Slot), I N ls → W p l e R s m args below meth c H locs cells slots Q (F0 m pc ls []))
    (h0 : I 0 ls) : W p l e R s m args below meth c H locs cells slots Q (F0 m pc ls []) := by
  have key : ∀ (k i : Nat), i + k = N → ∀ (ls : Array Slot), I i ls → W p l e R s m args below meth c H locs cells slots Q (F0 m pc ls []) := by
    intro k
    induction k with
    | zero =>
      intro i hi ls hI
      have : i = N := by omega
      subst this
      exact he ls hI
    | succ k ih =>
      intro i hi ls hI
      exact hs i ls (by omega) hI (fun ls h => ih (i + 1) (by omega) ls h)
  exact key N 0 (by omega) ls h0
variable {D : va_G} {tys : List (ClassId × FieldType)} {ws : va_W} {cc : ByteArray} {rest : List Value}
/-- a barrel out of the row's line -/
theorem kx_ald (hexec : p.tables.exec = Jvm.exec) (hb : c.code = cc) (hK : va_K D vwCl tys s) (hP : va_P D vwCl ws H) (q0 t0 : Nat) {la : Nat} {bs : Nat → Nat} {cA : ClassId} (ha : ws[q0]? = some (la, EL cA bs)) (ht : tys[t0]? = some (cA, .object "VinegarLoft$Barrel")) {i : Int32} {j : Nat} (hi : i = nI j) (hj : j < 8) (hdg : decode cc pc = .ok (.aaload, 1))
    (kk : W p l e R s m args below meth c H locs cells slots Q (F0 m (pc + 1) ls (.ref (bs j) :: rest))) : W p l e R s m args below meth c H locs cells slots Q (F0 m pc ls (.int i :: .ref la :: rest)) := by
  subst hi
  refine va_aldq hexec hb hK hP q0 t0 ha ht (vp_in_nI hj (by omega)) hdg ?_
  rw [nI_clamp (by omega)]
  exact kk
end LOOPS
end
section
/-! VinegarLoft$Row: its methods (laid by wip/p23/prog/x1.py) -/
set_option maxHeartbeats 4000000 in
set_option maxRecDepth 100000 in
theorem metX1_isComplete (l : Launch) (D : va_G) (r la : Nat) (bs : Nat → Nat) (cA : ClassId) (n : Nat) (hn : n ≤ 8) (wm df : Int32) (q : UInt64) (wd zs : Nat → Int32) (h : Nat → UInt64)  : Met l yX1_isComplete wsX1_isComplete { frames := 0, cells := 0, slots := 0, locals := 0 } (Pr D [(cA, .object "VinegarLoft$Barrel")] [.ref r] (rowW r la bs cA (nI n) wm df q wd zs h)) (vp_Si (fun r : Int32 => r = (if nI n < 8 then 0 else 1))) 0 0 (fun _ => False) := by
  refine Met.ofW (cc := cX1_isComplete) (maxL := 1) (ret := (some .boolean)) (by decide) rfl ?_
  intro p e s m args below meth c s₁ B hml hv
  obtain ⟨rfl, hP, hK⟩ := hv
  have hx := B.exec
  have hb := B.bytes
  have hr := B.returns
  have hts := atoms_spec (ws := wsX1_isComplete) B.pre
  have hown : s.vm.findClass RX1 = some m.cls := findClass_of_methodNamed B.named
  have hlocks := B.notSynchronized
  have hl := lv_entry ([.ref r]) (n := 1) (Nat.le_of_ble_eq_true rfl)
  rw [lg_entry_eq]
  generalize (lg_sl ([.ref r]) ++ List.replicate (1 - (lg_sl ([.ref r])).length) Slot.unset).toArray = ls at hl ⊢
  have hl : lv_has ls 1 [(0, .ref r)] := hl
  refine lv_aload_n hx hb dX1_isComplete_0 rfl (lv_at hl 0 rfl) ?_
  refine va_get (D := D) (ci := 1) (v := .int (nI n)) (C := RX1) (T := TX1) (N := 5) hx hb hts (by decide +kernel) hown hK hP (0) rfl rfl 1 (by decide) (hts (.fieldLink RX1 18 "VinegarLoft$Row" "count" "I") (by decide +kernel)) (fun _ h9 => h9) rfl dX1_isComplete_1 ?_
  refine lv_aload_n hx hb dX1_isComplete_4 rfl (lv_at hl 0 rfl) ?_
  refine va_get (D := D) (ci := 1) (v := .ref la) (C := RX1) (T := TX1) (N := 5) hx hb hts (by decide +kernel) hown hK hP (0) rfl rfl 0 (by decide) (hts (.fieldLink RX1 11 "VinegarLoft$Row" "line" "[LVinegarLoft$Barrel;") (by decide +kernel)) (fun _ h9 => h9) rfl dX1_isComplete_5 ?_
  refine va_alen hx hb hK hP 1 0 (v := 8) rfl rfl rfl dX1_isComplete_8 ?_
  refine lv_icmp_lt (tgt := 16) hx hb dX1_isComplete_9 (by decide) (fun c9 => ?_) (fun c9 => ?_)
  · refine lv_iconst (v := 0) hx hb dX1_isComplete_16 (by decide) ?_
    exact W.zret hx hb hr (by first | rfl | decide) (fun t ht hW => ⟨_, rfl, (if_pos c9).symm, ht⟩) (fun q hq => absurd hq List.not_mem_nil) dX1_isComplete_17
  · refine lv_iconst (v := 1) hx hb dX1_isComplete_12 (by decide) ?_
    refine lv_goto (tgt := 17) hx hb dX1_isComplete_13 (by decide) ?_
    exact W.zret hx hb hr (by first | rfl | decide) (fun t ht hW => ⟨_, rfl, (if_neg c9).symm, ht⟩) (fun q hq => absurd hq List.not_mem_nil) dX1_isComplete_17
set_option maxHeartbeats 4000000 in
set_option maxRecDepth 100000 in
theorem metX1_largestNext (l : Launch) (D : va_G) (r la : Nat) (bs : Nat → Nat) (cA : ClassId) (n : Nat) (hn : n ≤ 8) (wm df : Int32) (q : UInt64) (wd zs : Nat → Int32) (h : Nat → UInt64)  : Met l yX1_largestNext wsX1_largestNext { frames := 0, cells := 0, slots := 0, locals := 0 } (Pr D [(cA, .object "VinegarLoft$Barrel")] [.ref r] (rowW r la bs cA (nI n) wm df q wd zs h)) (vp_Si (fun r : Int32 => r = lgN zs n)) 0 0 (fun _ => False) := by
  refine Met.ofW (cc := cX1_largestNext) (maxL := 1) (ret := (some .int)) (by decide) rfl ?_
  intro p e s m args below meth c s₁ B hml hv
  obtain ⟨rfl, hP, hK⟩ := hv
  have hx := B.exec
  have hb := B.bytes
  have hr := B.returns
  have hts := atoms_spec (ws := wsX1_largestNext) B.pre
  have hown : s.vm.findClass RX1 = some m.cls := findClass_of_methodNamed B.named
  have hlocks := B.notSynchronized
  have hl := lv_entry ([.ref r]) (n := 1) (Nat.le_of_ble_eq_true rfl)
  rw [lg_entry_eq]
  generalize (lg_sl ([.ref r]) ++ List.replicate (1 - (lg_sl ([.ref r])).length) Slot.unset).toArray = ls at hl ⊢
  have hl : lv_has ls 1 [(0, .ref r)] := hl
  refine lv_aload_n hx hb dX1_largestNext_0 rfl (lv_at hl 0 rfl) ?_
  refine va_get (D := D) (ci := 1) (v := .int (nI n)) (C := RX1) (T := TX1) (N := 5) hx hb hts (by decide +kernel) hown hK hP (0) rfl rfl 1 (by decide) (hts (.fieldLink RX1 18 "VinegarLoft$Row" "count" "I") (by decide +kernel)) (fun _ h9 => h9) rfl dX1_largestNext_1 ?_
  refine lv_if_le (tgt := 26) hx hb dX1_largestNext_4 (by decide) (fun c4 => ?_) (fun c4 => ?_)
  · have h0 : n = 0 := (nI_le0 (by omega)).mp c4
    refine lv_bipush (v := 100) hx hb dX1_largestNext_26 (by decide) ?_
    exact W.iret hx hb hr (fun t ht hW => ⟨_, rfl, by unfold lgN; rw [if_pos h0], ht⟩) (fun q hq => absurd hq List.not_mem_nil) dX1_largestNext_28
  · have h0 : n ≠ 0 := fun h => c4 ((nI_le0 (by omega)).mpr h)
    refine lv_aload_n hx hb dX1_largestNext_7 rfl (lv_at hl 0 rfl) ?_
    refine va_get (D := D) (ci := 1) (v := .ref la) (C := RX1) (T := TX1) (N := 5) hx hb hts (by decide +kernel) hown hK hP (0) rfl rfl 0 (by decide) (hts (.fieldLink RX1 11 "VinegarLoft$Row" "line" "[LVinegarLoft$Barrel;") (by decide +kernel)) (fun _ h9 => h9) rfl dX1_largestNext_8 ?_
    refine lv_aload_n hx hb dX1_largestNext_11 rfl (lv_at hl 0 rfl) ?_
    refine va_get (D := D) (ci := 1) (v := .int (nI n)) (C := RX1) (T := TX1) (N := 5) hx hb hts (by decide +kernel) hown hK hP (0) rfl rfl 1 (by decide) (hts (.fieldLink RX1 18 "VinegarLoft$Row" "count" "I") (by decide +kernel)) (fun _ h9 => h9) rfl dX1_largestNext_12 ?_
    refine lv_iconst (v := 1) hx hb dX1_largestNext_15 (by decide) ?_
    refine lv_isub hx hb dX1_largestNext_16 ?_
    refine kx_ald hx hb hK hP (1) 0 rfl rfl (j := n - 1) (nI_p (by omega)) (by omega) dX1_largestNext_17 ?_
    refine va_get (D := D) (ci := 0) (v := .int (zs (n - 1))) (C := RX0) (T := TX0) (N := 6) hx hb hts (by decide +kernel) hown hK hP (2 + (n - 1)) (rowW_b (by omega)) rfl 1 (by decide) (hts (.fieldLink RX1 36 "VinegarLoft$Barrel" "size" "I") (by decide +kernel)) (fun _ h9 => h9) rfl dX1_largestNext_18 ?_
    refine lv_iconst (v := 1) hx hb dX1_largestNext_21 (by decide) ?_
    refine lv_isub hx hb dX1_largestNext_22 ?_
    refine lv_goto (tgt := 28) hx hb dX1_largestNext_23 (by decide) ?_
    exact W.iret hx hb hr (fun t ht hW => ⟨_, rfl, by unfold lgN; rw [if_neg h0], ht⟩) (fun q hq => absurd hq List.not_mem_nil) dX1_largestNext_28
set_option maxHeartbeats 4000000 in
set_option maxRecDepth 100000 in
theorem metX1_draughtNow (l : Launch) (D : va_G) (r la : Nat) (bs : Nat → Nat) (cA : ClassId) (n : Nat) (hn : n ≤ 8) (wm df : Int32) (q : UInt64) (wd zs : Nat → Int32) (h : Nat → UInt64) (hd : drok wm) : Met l yX1_draughtNow wsX1_draughtNow { frames := 0, cells := 0, slots := 0, locals := 0 } (Pr D [(cA, .object "VinegarLoft$Barrel")] [.ref r] (rowW r la bs cA (nI n) wm df q wd zs h)) (vp_Sd (fun r : UInt64 => r = drv wm)) 0 0 (fun _ => False) := by
  refine Met.ofW (cc := cX1_draughtNow) (maxL := 3) (ret := (some .double)) (by decide) rfl ?_
  intro p e s m args below meth c s₁ B hml hv
  obtain ⟨rfl, hP, hK⟩ := hv
  have hx := B.exec
  have hb := B.bytes
  have hr := B.returns
  have hts := atoms_spec (ws := wsX1_draughtNow) B.pre
  have hown : s.vm.findClass RX1 = some m.cls := findClass_of_methodNamed B.named
  have hlocks := B.notSynchronized
  have hl := lv_entry ([.ref r]) (n := 3) (Nat.le_of_ble_eq_true rfl)
  rw [lg_entry_eq]
  generalize (lg_sl ([.ref r]) ++ List.replicate (3 - (lg_sl ([.ref r])).length) Slot.unset).toArray = ls at hl ⊢
  have hl : lv_has ls 3 [(0, .ref r)] := hl
  obtain ⟨d1, d2, d3⟩ := hd
  refine kd_1 hx hb dX1_draughtNow_0 ?_
  refine lv_ldc2d hx hb hown (hts (.constantDouble RX1 96 4587366580439587226) (by decide +kernel)) dX1_draughtNow_1 ?_
  refine lv_aload_n hx hb dX1_draughtNow_4 rfl (lv_at hl 0 rfl) ?_
  refine va_get (D := D) (ci := 1) (v := .int wm) (C := RX1) (T := TX1) (N := 5) hx hb hts (by decide +kernel) hown hK hP (0) rfl rfl 2 (by decide) (hts (.fieldLink RX1 22 "VinegarLoft$Row" "warmth" "I") (by decide +kernel)) (fun _ h9 => h9) rfl dX1_draughtNow_5 ?_
  refine lv_bipush (v := 18) hx hb dX1_draughtNow_8 (by decide) ?_
  refine lv_isub hx hb dX1_draughtNow_10 ?_
  refine lv_i2d hx hb dX1_draughtNow_11 ?_
  refine lv_dmul hx hb dX1_draughtNow_12 d1 ?_
  refine lv_dadd hx hb dX1_draughtNow_13 d2 ?_
  refine lv_dstore_n (lv' := [(1, .double (drw wm)), (0, .ref r)]) hx hb dX1_draughtNow_14 rfl hl (by decide) rfl (fun ls hl => ?_)
  refine lv_dload_n hx hb dX1_draughtNow_15 rfl (lv_at hl 0 rfl) ?_
  refine lv_ldc2d hx hb hown (hts (.constantDouble RX1 98 4596373779694328218) (by decide +kernel)) dX1_draughtNow_16 ?_
  refine kd_ge (tgt := 29) hx hb dX1_draughtNow_19 dX1_draughtNow_20 (by decide) d3 (fun c19 => ?_) (fun c19 => ?_)
  · refine lv_dload_n hx hb dX1_draughtNow_29 rfl (lv_at hl 0 rfl) ?_
    exact W.dret hx hb hr (fun t ht hW => ⟨_, rfl, by unfold drv; rw [if_neg c19], ht⟩) (fun q hq => absurd hq List.not_mem_nil) dX1_draughtNow_30
  · refine lv_ldc2d hx hb hown (hts (.constantDouble RX1 98 4596373779694328218) (by decide +kernel)) dX1_draughtNow_23 ?_
    refine lv_goto (tgt := 30) hx hb dX1_draughtNow_26 (by decide) ?_
    exact W.dret hx hb hr (fun t ht hW => ⟨_, rfl, by unfold drv; rw [if_pos c19], ht⟩) (fun q hq => absurd hq List.not_mem_nil) dX1_draughtNow_30
theorem emp0 {x : UInt64} : emp x = 0 ↔ FP.dcmp x 0 = some .gt := by
  unfold emp
  constructor
  · intro h
    refine Classical.byContradiction fun h2 => ?_
    rw [if_neg h2] at h
    exact absurd h (by decide)
  · intro h; rw [if_pos h]
theorem nn_0 : NN 0 := by unfold NN; decide +kernel
theorem elG_nn {h : Nat → UInt64} {n : Nat} (hN : NNr n h) {k : Nat} (hk : k ≤ n) : NN (elG h (elO h k)) := by
  cases ho : elO h k with
  | none => exact nn_0
  | some b => exact (hN b (by have := elO_lt h k b ho; omega)).2
theorem elO_y {h : Nat → UInt64} {n : Nat} (hN : NNr n h) {i : Nat} (hi : i < n) (h1 : FP.dcmp (h i) 0 = some .gt) (h2 : FP.dcmp (h (8 + i)) (elG h (elO h i)) ≠ some .lt) : elO h (i + 1) = some i := by
  show (if elt h i (elO h i) = true then some i else elO h i) = some i
  refine if_pos ?_
  unfold elt
  rw [decide_eq_true h1, Bool.true_and]
  cases ho : elO h i with
  | none => rfl
  | some b => rw [ho] at h2; exact decide_eq_true h2
theorem elO_e {h : Nat → UInt64} {i : Nat} (h1 : FP.dcmp (h i) 0 ≠ some .gt) : elO h (i + 1) = elO h i := by
  show (if elt h i (elO h i) = true then some i else elO h i) = elO h i
  refine if_neg ?_
  unfold elt
  rw [decide_eq_false h1, Bool.false_and]
  exact fun h => nomatch h
theorem elO_n {h : Nat → UInt64} {n : Nat} (hN : NNr n h) {i : Nat} (hi : i < n) (h2 : FP.dcmp (h (8 + i)) (elG h (elO h i)) = some .lt) : elO h (i + 1) = elO h i := by
  show (if elt h i (elO h i) = true then some i else elO h i) = elO h i
  refine if_neg ?_
  unfold elt
  cases ho : elO h i with
  | none =>
    rw [ho] at h2
    have h3 := ((cmp_nn (hN i hi).2 (show NN (elG h none) from nn_0)).1).mp h2
    have h4 : (elG h none).toNat = 0 := by
      show (0 : UInt64).toNat = 0
      decide
    omega
  | some b =>
    rw [ho] at h2
    show ¬ (decide (FP.dcmp (h i) 0 = some .gt) && decide (FP.dcmp (h (8 + i)) (h (8 + b)) ≠ some .lt)) = true
    rw [show decide (FP.dcmp (h (8 + i)) (h (8 + b)) ≠ some .lt) = false from decide_eq_false (fun h5 => h5 h2), Bool.and_false]
    exact fun h => nomatch h
theorem nn_ne0 {x : UInt64} (h : NN x) : FP.dcmp x 0 ≠ none := cmp_ne h.ne ne_0
theorem nI_m1 {b : Nat} (hb : b < 8) : ¬ nI b = -1 := fun e => nomatch ((encO_m1 (o := some b) (fun x hx => by cases hx; exact hb)).mp e)
set_option maxHeartbeats 4000000 in
set_option maxRecDepth 100000 in
/-- eldest() -/
theorem metX1_eldest (l : Launch) (D : va_G) (r la : Nat) (bs : Nat → Nat) (cA : ClassId) (n : Nat) (hn : n ≤ 8) (wm df : Int32) (q : UInt64) (wd zs : Nat → Int32) (h : Nat → UInt64) (hN : NNr n h) : Met l yX1_eldest wsX1_eldest { frames := 1, cells := 0, slots := 0, locals := 20 } (Pr D [(cA, .object "VinegarLoft$Barrel")] [.ref r] (rowW r la bs cA (nI n) wm df q wd zs h)) (vp_Si (fun r : Int32 => r = encO (elO h n))) 0 0 (fun _ => False) := by
  refine Met.ofW (cc := cX1_eldest) (maxL := 5) (ret := (some .int)) (by decide) rfl ?_
  intro p e s m args below meth c s₁ B hml hv
  obtain ⟨rfl, hP, hK⟩ := hv
  have hx := B.exec
  have hb := B.bytes
  have hr := B.returns
  have hts := atoms_spec (ws := wsX1_eldest) B.pre
  have hown : s.vm.findClass RX1 = some m.cls := findClass_of_methodNamed B.named
  have hlocks := B.notSynchronized
  have hl := lv_entry ([.ref r]) (n := 5) (Nat.le_of_ble_eq_true rfl)
  rw [lg_entry_eq]
  generalize (lg_sl ([.ref r]) ++ List.replicate (5 - (lg_sl ([.ref r])).length) Slot.unset).toArray = ls at hl ⊢
  have hl : lv_has ls 5 [(0, .ref r)] := hl
  refine lv_iconst (v := (-1)) hx hb dX1_eldest_0 (by decide) ?_
  refine lv_istore_n (lv' := [(1, .int (-1)), (0, .ref r)]) hx hb dX1_eldest_1 rfl hl (by decide) rfl (fun ls hl => ?_)
  refine kd_0 hx hb dX1_eldest_2 ?_
  refine lv_dstore_n (lv' := [(2, .double 0), (1, .int (-1)), (0, .ref r)]) hx hb dX1_eldest_3 rfl hl (by decide) rfl (fun ls hl => ?_)
  refine lv_iconst (v := 0) hx hb dX1_eldest_4 (by decide) ?_
  refine lv_istore (lv' := [(4, .int 0), (2, .double 0), (1, .int (-1)), (0, .ref r)]) hx hb dX1_eldest_5 hl (by decide) rfl (fun ls hl => ?_)
  refine kW_upR (n) (fun i ls => lv_has ls 5 [(4, .int (nI i)), (2, .double (elG h (elO h i))), (1, .int (encO (elO h i))), (0, .ref r)]) (fun i ls hi hl ih => ?_) (fun ls hl => ?_) (lv_sub hl [0, 1, 2, 3] (rfl))
  · refine lv_iload hx hb dX1_eldest_7 (lv_at hl 0 rfl) ?_
    refine lv_aload_n hx hb dX1_eldest_9 rfl (lv_at hl 3 rfl) ?_
    refine va_get (D := D) (ci := 1) (v := .int (nI n)) (C := RX1) (T := TX1) (N := 5) hx hb hts (by decide +kernel) hown hK hP (0) rfl rfl 1 (by decide) (hts (.fieldLink RX1 18 "VinegarLoft$Row" "count" "I") (by decide +kernel)) (fun _ h9 => h9) rfl dX1_eldest_10 ?_
    refine lv_icmp_ge (tgt := 64) hx hb dX1_eldest_13 (by decide) (fun c13 => absurd c13 (nI_ge hi (by omega))) (fun c13 => ?_)
    refine lv_aload_n hx hb dX1_eldest_16 rfl (lv_at hl 3 rfl) ?_
    refine va_get (D := D) (ci := 1) (v := .ref la) (C := RX1) (T := TX1) (N := 5) hx hb hts (by decide +kernel) hown hK hP (0) rfl rfl 0 (by decide) (hts (.fieldLink RX1 11 "VinegarLoft$Row" "line" "[LVinegarLoft$Barrel;") (by decide +kernel)) (fun _ h9 => h9) rfl dX1_eldest_17 ?_
    refine lv_iload hx hb dX1_eldest_20 (lv_at hl 0 rfl) ?_
    refine kx_ald hx hb hK hP (1) 0 rfl rfl (j := i) rfl (by omega) dX1_eldest_22 ?_
    refine kr_i (W.runV (As := []) (rest := []) ⟨hx, hb, hml, hown, hts⟩ (metX0_isEmpty l D (bs i) (wd i) (zs i) (h i) (h (8 + i)) (h (16 + i)) (h (24 + i)) (nn_ne0 (hN i hi).1)) (cwV 0 hts gX1_eldest_X0_isEmpty rfl rfl rfl (by decide +kernel) ⟨Nat.le_of_ble_eq_true rfl, Nat.le_of_ble_eq_true rfl⟩) (prV 0 0 RX0 TX0 6 rfl rfl (vj_oP (rowW_b (show i < 8 by omega)) hP) (hK.sub [] rfl)) rfl rfl hl.1 rfl (lv_room (Nat.le_of_ble_eq_true rfl)) dX1_eldest_23 ⟨Nat.le_of_ble_eq_true rfl, Nat.le_of_ble_eq_true rfl⟩) ?_
    refine lv_if_ne (tgt := 58) hx hb dX1_eldest_26 (by decide) (fun c26 => ?_) (fun c26 => ?_)
    · refine lv_iinc (v := nI (i + 1)) (lv' := [(4, .int (nI (i + 1))), (2, .double (elG h (elO h i))), (1, .int (encO (elO h i))), (0, .ref r)]) hx hb dX1_eldest_58 hl (k := 0) rfl (nI_1 i) (by decide) rfl (fun ls hl => ?_)
      refine lv_goto (tgt := 7) hx hb dX1_eldest_61 (by decide) ?_
      have e1 : elO h (i + 1) = elO h i := elO_e (fun h9 => c26 (emp0.mpr h9))
      exact ih ls (lv_sub hl [0, 1, 2, 3] (by rw [e1]; rfl))
    · refine lv_aload_n hx hb dX1_eldest_29 rfl (lv_at hl 3 rfl) ?_
      refine va_get (D := D) (ci := 1) (v := .ref la) (C := RX1) (T := TX1) (N := 5) hx hb hts (by decide +kernel) hown hK hP (0) rfl rfl 0 (by decide) (hts (.fieldLink RX1 11 "VinegarLoft$Row" "line" "[LVinegarLoft$Barrel;") (by decide +kernel)) (fun _ h9 => h9) rfl dX1_eldest_30 ?_
      refine lv_iload hx hb dX1_eldest_33 (lv_at hl 0 rfl) ?_
      refine kx_ald hx hb hK hP (1) 0 rfl rfl (j := i) rfl (by omega) dX1_eldest_35 ?_
      refine va_get (D := D) (ci := 0) (v := .double (h (8 + i))) (C := RX0) (T := TX0) (N := 6) hx hb hts (by decide +kernel) hown hK hP (2 + i) (rowW_b (show i < 8 by omega)) rfl 3 (by decide) (hts (.fieldLink RX1 66 "VinegarLoft$Barrel" "age" "D") (by decide +kernel)) (fun _ h9 => h9) rfl dX1_eldest_36 ?_
      refine lv_dload_n hx hb dX1_eldest_39 rfl (lv_at hl 1 rfl) ?_
      refine kd_lt (tgt := 58) hx hb dX1_eldest_40 dX1_eldest_41 (by decide) (cmp_ne (hN i hi).2.ne (elG_nn hN (by omega)).ne) (fun c40 => ?_) (fun c40 => ?_)
      · refine lv_iinc (v := nI (i + 1)) (lv' := [(4, .int (nI (i + 1))), (2, .double (elG h (elO h i))), (1, .int (encO (elO h i))), (0, .ref r)]) hx hb dX1_eldest_58 hl (k := 0) rfl (nI_1 i) (by decide) rfl (fun ls hl => ?_)
        refine lv_goto (tgt := 7) hx hb dX1_eldest_61 (by decide) ?_
        have e1 : elO h (i + 1) = elO h i := elO_n hN hi c40
        exact ih ls (lv_sub hl [0, 1, 2, 3] (by rw [e1]; rfl))
      · refine lv_iload hx hb dX1_eldest_44 (lv_at hl 0 rfl) ?_
        refine lv_istore_n (lv' := [(1, .int (nI i)), (4, .int (nI i)), (2, .double (elG h (elO h i))), (0, .ref r)]) hx hb dX1_eldest_46 rfl hl (by decide) rfl (fun ls hl => ?_)
        refine lv_aload_n hx hb dX1_eldest_47 rfl (lv_at hl 3 rfl) ?_
        refine va_get (D := D) (ci := 1) (v := .ref la) (C := RX1) (T := TX1) (N := 5) hx hb hts (by decide +kernel) hown hK hP (0) rfl rfl 0 (by decide) (hts (.fieldLink RX1 11 "VinegarLoft$Row" "line" "[LVinegarLoft$Barrel;") (by decide +kernel)) (fun _ h9 => h9) rfl dX1_eldest_48 ?_
        refine lv_iload hx hb dX1_eldest_51 (lv_at hl 1 rfl) ?_
        refine kx_ald hx hb hK hP (1) 0 rfl rfl (j := i) rfl (by omega) dX1_eldest_53 ?_
        refine va_get (D := D) (ci := 0) (v := .double (h (8 + i))) (C := RX0) (T := TX0) (N := 6) hx hb hts (by decide +kernel) hown hK hP (2 + i) (rowW_b (show i < 8 by omega)) rfl 3 (by decide) (hts (.fieldLink RX1 66 "VinegarLoft$Barrel" "age" "D") (by decide +kernel)) (fun _ h9 => h9) rfl dX1_eldest_54 ?_
        refine lv_dstore_n (lv' := [(2, .double (h (8 + i))), (1, .int (nI i)), (4, .int (nI i)), (0, .ref r)]) hx hb dX1_eldest_57 rfl hl (by decide) rfl (fun ls hl => ?_)
        refine lv_iinc (v := nI (i + 1)) (lv' := [(4, .int (nI (i + 1))), (2, .double (h (8 + i))), (1, .int (nI i)), (0, .ref r)]) hx hb dX1_eldest_58 hl (k := 2) rfl (nI_1 i) (by decide) rfl (fun ls hl => ?_)
        refine lv_goto (tgt := 7) hx hb dX1_eldest_61 (by decide) ?_
        have e1 : elO h (i + 1) = some i := elO_y hN hi (emp0.mp c26) c40
        exact ih ls (lv_sub hl [0, 1, 2, 3] (by rw [e1]; rfl))
  · refine lv_iload hx hb dX1_eldest_7 (lv_at hl 0 rfl) ?_
    refine lv_aload_n hx hb dX1_eldest_9 rfl (lv_at hl 3 rfl) ?_
    refine va_get (D := D) (ci := 1) (v := .int (nI n)) (C := RX1) (T := TX1) (N := 5) hx hb hts (by decide +kernel) hown hK hP (0) rfl rfl 1 (by decide) (hts (.fieldLink RX1 18 "VinegarLoft$Row" "count" "I") (by decide +kernel)) (fun _ h9 => h9) rfl dX1_eldest_10 ?_
    refine lv_icmp_ge (tgt := 64) hx hb dX1_eldest_13 (by decide) (fun c13 => ?_) (fun c13 => absurd (nI_le (Nat.le_refl n) (by omega)) c13)
    refine lv_iload_n hx hb dX1_eldest_64 rfl (lv_at hl 2 rfl) ?_
    exact W.iret hx hb hr (fun t ht hW => ⟨_, rfl, rfl, ht⟩) (fun q hq => absurd hq List.not_mem_nil) dX1_eldest_65
set_option maxHeartbeats 4000000 in
set_option maxRecDepth 100000 in
/-- greatestAge() -/
theorem metX1_greatestAge (l : Launch) (D : va_G) (r la : Nat) (bs : Nat → Nat) (cA : ClassId) (n : Nat) (hn : n ≤ 8) (wm df : Int32) (q : UInt64) (wd zs : Nat → Int32) (h : Nat → UInt64) (hN : NNr n h) : Met l yX1_greatestAge wsX1_greatestAge { frames := 2, cells := 0, slots := 0, locals := 44 } (Pr D [(cA, .object "VinegarLoft$Barrel")] [.ref r] (rowW r la bs cA (nI n) wm df q wd zs h)) (vp_Sd (fun r : UInt64 => r = elG h (elO h n))) 0 0 (fun _ => False) := by
  refine Met.ofW (cc := cX1_greatestAge) (maxL := 2) (ret := (some .double)) (by decide) rfl ?_
  intro p e s m args below meth c s₁ B hml hv
  obtain ⟨rfl, hP, hK⟩ := hv
  have hx := B.exec
  have hb := B.bytes
  have hr := B.returns
  have hts := atoms_spec (ws := wsX1_greatestAge) B.pre
  have hown : s.vm.findClass RX1 = some m.cls := findClass_of_methodNamed B.named
  have hlocks := B.notSynchronized
  have hl := lv_entry ([.ref r]) (n := 2) (Nat.le_of_ble_eq_true rfl)
  rw [lg_entry_eq]
  generalize (lg_sl ([.ref r]) ++ List.replicate (2 - (lg_sl ([.ref r])).length) Slot.unset).toArray = ls at hl ⊢
  have hl : lv_has ls 2 [(0, .ref r)] := hl
  refine lv_aload_n hx hb dX1_greatestAge_0 rfl (lv_at hl 0 rfl) ?_
  refine kr_i (W.runV (As := []) (rest := []) ⟨hx, hb, hml, hown, hts⟩ (metX1_eldest l D r la bs cA n hn wm df q wd zs h hN) (cwV 0 hts gX1_greatestAge_X1_eldest rfl rfl rfl (by decide +kernel) ⟨Nat.le_of_ble_eq_true rfl, Nat.le_of_ble_eq_true rfl⟩) (prV 1 0 RX1 TX1 5 rfl rfl hP hK) rfl rfl hl.1 rfl (lv_room (Nat.le_of_ble_eq_true rfl)) dX1_greatestAge_1 ⟨Nat.le_of_ble_eq_true rfl, Nat.le_of_ble_eq_true rfl⟩) ?_
  rcases ho : elO h n with _ | b
  · refine lv_istore_n (lv' := [(1, .int (-1)), (0, .ref r)]) hx hb dX1_greatestAge_4 rfl hl (by decide) rfl (fun ls hl => ?_)
    refine lv_iload_n hx hb dX1_greatestAge_5 rfl (lv_at hl 0 rfl) ?_
    refine lv_iconst (v := (-1)) hx hb dX1_greatestAge_6 (by decide) ?_
    refine lv_icmp_ne (tgt := 14) hx hb dX1_greatestAge_7 (by decide) (fun c7 => absurd c7 (fun h9 => h9 rfl)) (fun c7 => ?_)
    refine kd_0 hx hb dX1_greatestAge_10 ?_
    refine lv_goto (tgt := 23) hx hb dX1_greatestAge_11 (by decide) ?_
    exact W.dret hx hb hr (fun t ht hW => ⟨_, rfl, rfl, ht⟩) (fun q hq => absurd hq List.not_mem_nil) dX1_greatestAge_23
  · have hbn : b < n := elO_lt h n b ho
    refine lv_istore_n (lv' := [(1, .int (nI b)), (0, .ref r)]) hx hb dX1_greatestAge_4 rfl hl (by decide) rfl (fun ls hl => ?_)
    refine lv_iload_n hx hb dX1_greatestAge_5 rfl (lv_at hl 0 rfl) ?_
    refine lv_iconst (v := (-1)) hx hb dX1_greatestAge_6 (by decide) ?_
    refine lv_icmp_ne (tgt := 14) hx hb dX1_greatestAge_7 (by decide) (fun c7 => ?_) (fun c7 => absurd c7 (nI_m1 (by omega)))
    refine lv_aload_n hx hb dX1_greatestAge_14 rfl (lv_at hl 1 rfl) ?_
    refine va_get (D := D) (ci := 1) (v := .ref la) (C := RX1) (T := TX1) (N := 5) hx hb hts (by decide +kernel) hown hK hP (0) rfl rfl 0 (by decide) (hts (.fieldLink RX1 11 "VinegarLoft$Row" "line" "[LVinegarLoft$Barrel;") (by decide +kernel)) (fun _ h9 => h9) rfl dX1_greatestAge_15 ?_
    refine lv_iload_n hx hb dX1_greatestAge_18 rfl (lv_at hl 0 rfl) ?_
    refine kx_ald hx hb hK hP (1) 0 rfl rfl (j := b) rfl (by omega) dX1_greatestAge_19 ?_
    refine va_get (D := D) (ci := 0) (v := .double (h (8 + b))) (C := RX0) (T := TX0) (N := 6) hx hb hts (by decide +kernel) hown hK hP (2 + b) (rowW_b (show b < 8 by omega)) rfl 3 (by decide) (hts (.fieldLink RX1 66 "VinegarLoft$Barrel" "age" "D") (by decide +kernel)) (fun _ h9 => h9) rfl dX1_greatestAge_20 ?_
    exact W.dret hx hb hr (fun t ht hW => ⟨_, rfl, rfl, ht⟩) (fun q hq => absurd hq List.not_mem_nil) dX1_greatestAge_23
theorem rdv_none {h : Nat → UInt64} {n : Nat} {df : Int32} {q : UInt64} (ho : elO h n = none) : rdv h n df q = 0 := by unfold rdv; rw [ho]
theorem rdv_some {h : Nat → UInt64} {n : Nat} {df : Int32} {q : UInt64} {b : Nat} (ho : elO h n = some b) : rdv h n df q = if nI b = df then (if FP.dcmp (h (8 + b)) 4622945017495814144 = some .lt ∨ FP.dcmp (h (24 + b)) 4627730092099895296 = some .lt then 0 else if FP.dcmp (leB h q b) 0 = some .gt then FP.d2i (FP.ddiv (leB h q b) 4591870180066957722) else 0) else 0 := by unfold rdv; rw [ho]
set_option maxHeartbeats 4000000 in
set_option maxRecDepth 100000 in
/-- bottlesReady() -/
theorem metX1_bottlesReady (l : Launch) (D : va_G) (r la : Nat) (bs : Nat → Nat) (cA : ClassId) (n : Nat) (hn : n ≤ 8) (wm df : Int32) (q : UInt64) (wd zs : Nat → Int32) (h : Nat → UInt64) (hN : NNr n h) (hr9 : rdok h n q) : Met l yX1_bottlesReady wsX1_bottlesReady { frames := 2, cells := 0, slots := 0, locals := 44 } (Pr D [(cA, .object "VinegarLoft$Barrel")] [.ref r] (rowW r la bs cA (nI n) wm df q wd zs h)) (vp_Si (fun r : Int32 => r = rdv h n df q)) 0 0 (fun _ => False) := by
  refine Met.ofW (cc := cX1_bottlesReady) (maxL := 5) (ret := (some .int)) (by decide) rfl ?_
  intro p e s m args below meth c s₁ B hml hv
  obtain ⟨rfl, hP, hK⟩ := hv
  have hx := B.exec
  have hb := B.bytes
  have hr := B.returns
  have hts := atoms_spec (ws := wsX1_bottlesReady) B.pre
  have hown : s.vm.findClass RX1 = some m.cls := findClass_of_methodNamed B.named
  have hlocks := B.notSynchronized
  have hl := lv_entry ([.ref r]) (n := 5) (Nat.le_of_ble_eq_true rfl)
  rw [lg_entry_eq]
  generalize (lg_sl ([.ref r]) ++ List.replicate (5 - (lg_sl ([.ref r])).length) Slot.unset).toArray = ls at hl ⊢
  have hl : lv_has ls 5 [(0, .ref r)] := hl
  refine lv_aload_n hx hb dX1_bottlesReady_0 rfl (lv_at hl 0 rfl) ?_
  refine kr_i (W.runV (As := []) (rest := []) ⟨hx, hb, hml, hown, hts⟩ (metX1_eldest l D r la bs cA n hn wm df q wd zs h hN) (cwV 0 hts gX1_bottlesReady_X1_eldest rfl rfl rfl (by decide +kernel) ⟨Nat.le_of_ble_eq_true rfl, Nat.le_of_ble_eq_true rfl⟩) (prV 1 0 RX1 TX1 5 rfl rfl hP hK) rfl rfl hl.1 rfl (lv_room (Nat.le_of_ble_eq_true rfl)) dX1_bottlesReady_1 ⟨Nat.le_of_ble_eq_true rfl, Nat.le_of_ble_eq_true rfl⟩) ?_
  rcases ho : elO h n with _ | b
  · refine lv_istore_n (lv' := [(1, .int (-1)), (0, .ref r)]) hx hb dX1_bottlesReady_4 rfl hl (by decide) rfl (fun ls hl => ?_)
    refine lv_iload_n hx hb dX1_bottlesReady_5 rfl (lv_at hl 0 rfl) ?_
    refine lv_iconst (v := (-1)) hx hb dX1_bottlesReady_6 (by decide) ?_
    refine lv_icmp_eq (tgt := 18) hx hb dX1_bottlesReady_7 (by decide) (fun c7 => ?_) (fun c7 => absurd rfl c7)
    refine lv_iconst (v := 0) hx hb dX1_bottlesReady_18 (by decide) ?_
    exact W.iret hx hb hr (fun t ht hW => ⟨_, rfl, (rdv_none ho).symm, ht⟩) (fun q hq => absurd hq List.not_mem_nil) dX1_bottlesReady_19
  · have hbn : b < n := elO_lt h n b ho
    refine lv_istore_n (lv' := [(1, .int (nI b)), (0, .ref r)]) hx hb dX1_bottlesReady_4 rfl hl (by decide) rfl (fun ls hl => ?_)
    refine lv_iload_n hx hb dX1_bottlesReady_5 rfl (lv_at hl 0 rfl) ?_
    refine lv_iconst (v := (-1)) hx hb dX1_bottlesReady_6 (by decide) ?_
    refine lv_icmp_eq (tgt := 18) hx hb dX1_bottlesReady_7 (by decide) (fun c7 => absurd c7 (nI_m1 (by omega))) (fun c7 => ?_)
    refine lv_iload_n hx hb dX1_bottlesReady_10 rfl (lv_at hl 0 rfl) ?_
    refine lv_aload_n hx hb dX1_bottlesReady_11 rfl (lv_at hl 1 rfl) ?_
    refine va_get (D := D) (ci := 1) (v := .int df) (C := RX1) (T := TX1) (N := 5) hx hb hts (by decide +kernel) hown hK hP (0) rfl rfl 3 (by decide) (hts (.fieldLink RX1 25 "VinegarLoft$Row" "drawnFrom" "I") (by decide +kernel)) (fun _ h9 => h9) rfl dX1_bottlesReady_12 ?_
    refine lv_icmp_eq (tgt := 20) hx hb dX1_bottlesReady_15 (by decide) (fun c15 => ?_) (fun c15 => ?_)
    · obtain ⟨r1, r2, r3, r4, r5⟩ := hr9 b hbn
      refine lv_aload_n hx hb dX1_bottlesReady_20 rfl (lv_at hl 1 rfl) ?_
      refine va_get (D := D) (ci := 1) (v := .ref la) (C := RX1) (T := TX1) (N := 5) hx hb hts (by decide +kernel) hown hK hP (0) rfl rfl 0 (by decide) (hts (.fieldLink RX1 11 "VinegarLoft$Row" "line" "[LVinegarLoft$Barrel;") (by decide +kernel)) (fun _ h9 => h9) rfl dX1_bottlesReady_21 ?_
      refine lv_iload_n hx hb dX1_bottlesReady_24 rfl (lv_at hl 0 rfl) ?_
      refine kx_ald hx hb hK hP (1) 0 rfl rfl (j := b) rfl (by omega) dX1_bottlesReady_25 ?_
      refine lv_astore_n (lv' := [(2, .ref (bs b)), (1, .int (nI b)), (0, .ref r)]) hx hb dX1_bottlesReady_26 rfl hl (by decide) rfl (fun ls hl => ?_)
      refine lv_aload_n hx hb dX1_bottlesReady_27 rfl (lv_at hl 0 rfl) ?_
      refine va_get (D := D) (ci := 0) (v := .double (h (8 + b))) (C := RX0) (T := TX0) (N := 6) hx hb hts (by decide +kernel) hown hK hP (2 + b) (rowW_b (show b < 8 by omega)) rfl 3 (by decide) (hts (.fieldLink RX1 66 "VinegarLoft$Barrel" "age" "D") (by decide +kernel)) (fun _ h9 => h9) rfl dX1_bottlesReady_28 ?_
      refine lv_ldc2d hx hb hown (hts (.constantDouble RX1 100 4622945017495814144) (by decide +kernel)) dX1_bottlesReady_31 ?_
      refine kd_lt (tgt := 49) hx hb dX1_bottlesReady_34 dX1_bottlesReady_35 (by decide) r1 (fun c34 => ?_) (fun c34 => ?_)
      · refine lv_iconst (v := 0) hx hb dX1_bottlesReady_49 (by decide) ?_
        exact W.iret hx hb hr (fun t ht hW => ⟨_, rfl, by rw [rdv_some ho, if_pos c15, if_pos (Or.inl c34)], ht⟩) (fun q hq => absurd hq List.not_mem_nil) dX1_bottlesReady_50
      · refine lv_aload_n hx hb dX1_bottlesReady_38 rfl (lv_at hl 0 rfl) ?_
        refine va_get (D := D) (ci := 0) (v := .double (h (24 + b))) (C := RX0) (T := TX0) (N := 6) hx hb hts (by decide +kernel) hown hK hP (2 + b) (rowW_b (show b < 8 by omega)) rfl 5 (by decide) (hts (.fieldLink RX1 72 "VinegarLoft$Barrel" "sugar" "D") (by decide +kernel)) (fun _ h9 => h9) rfl dX1_bottlesReady_39 ?_
        refine lv_ldc2d hx hb hown (hts (.constantDouble RX1 102 4627730092099895296) (by decide +kernel)) dX1_bottlesReady_42 ?_
        refine kd_ge (tgt := 51) hx hb dX1_bottlesReady_45 dX1_bottlesReady_46 (by decide) r2 (fun c45 => ?_) (fun c45 => ?_)
        · refine lv_aload_n hx hb dX1_bottlesReady_51 rfl (lv_at hl 2 rfl) ?_
          refine va_get (D := D) (ci := 1) (v := .double q) (C := RX1) (T := TX1) (N := 5) hx hb hts (by decide +kernel) hown hK hP (0) rfl rfl 4 (by decide) (hts (.fieldLink RX1 28 "VinegarLoft$Row" "mayBeDrawn" "D") (by decide +kernel)) (fun _ h9 => h9) rfl dX1_bottlesReady_52 ?_
          refine lv_aload_n hx hb dX1_bottlesReady_55 rfl (lv_at hl 0 rfl) ?_
          refine va_get (D := D) (ci := 0) (v := .double (h b)) (C := RX0) (T := TX0) (N := 6) hx hb hts (by decide +kernel) hown hK hP (2 + b) (rowW_b (show b < 8 by omega)) rfl 2 (by decide) (hts (.fieldLink RX1 49 "VinegarLoft$Barrel" "litres" "D") (by decide +kernel)) (fun _ h9 => h9) rfl dX1_bottlesReady_56 ?_
          refine kd_ge (tgt := 70) hx hb dX1_bottlesReady_59 dX1_bottlesReady_60 (by decide) r3 (fun c59 => ?_) (fun c59 => ?_)
          · refine lv_aload_n hx hb dX1_bottlesReady_70 rfl (lv_at hl 0 rfl) ?_
            refine va_get (D := D) (ci := 0) (v := .double (h b)) (C := RX0) (T := TX0) (N := 6) hx hb hts (by decide +kernel) hown hK hP (2 + b) (rowW_b (show b < 8 by omega)) rfl 2 (by decide) (hts (.fieldLink RX1 49 "VinegarLoft$Barrel" "litres" "D") (by decide +kernel)) (fun _ h9 => h9) rfl dX1_bottlesReady_71 ?_
            refine kd_eq (show (h b) = leB h q b from by unfold leB lesv; rw [if_neg c59]) ?_
            refine lv_dstore_n (lv' := [(3, .double (leB h q b)), (2, .ref (bs b)), (1, .int (nI b)), (0, .ref r)]) hx hb dX1_bottlesReady_74 rfl hl (by decide) rfl (fun ls hl => ?_)
            refine lv_dload_n hx hb dX1_bottlesReady_75 rfl (lv_at hl 0 rfl) ?_
            refine kd_0 hx hb dX1_bottlesReady_76 ?_
            refine kd_le (tgt := 90) hx hb dX1_bottlesReady_77 dX1_bottlesReady_78 (by decide) r4 (fun c77 => ?_) (fun c77 => ?_)
            · refine lv_iconst (v := 0) hx hb dX1_bottlesReady_90 (by decide) ?_
              exact W.iret hx hb hr (fun t ht hW => ⟨_, rfl, by rw [rdv_some ho, if_pos c15, if_neg (fun h9 => h9.elim c34 c45), if_neg c77], ht⟩) (fun q hq => absurd hq List.not_mem_nil) dX1_bottlesReady_91
            · refine lv_dload_n hx hb dX1_bottlesReady_81 rfl (lv_at hl 0 rfl) ?_
              refine lv_ldc2d hx hb hown (hts (.constantDouble RX1 104 4591870180066957722) (by decide +kernel)) dX1_bottlesReady_82 ?_
              refine lv_ddiv hx hb dX1_bottlesReady_85 (r5 c77) ?_
              refine lv_d2i hx hb dX1_bottlesReady_86 ?_
              refine lv_goto (tgt := 91) hx hb dX1_bottlesReady_87 (by decide) ?_
              exact W.iret hx hb hr (fun t ht hW => ⟨_, rfl, by rw [rdv_some ho, if_pos c15, if_neg (fun h9 => h9.elim c34 c45), if_pos c77], ht⟩) (fun q hq => absurd hq List.not_mem_nil) dX1_bottlesReady_91
          · refine lv_aload_n hx hb dX1_bottlesReady_63 rfl (lv_at hl 2 rfl) ?_
            refine va_get (D := D) (ci := 1) (v := .double q) (C := RX1) (T := TX1) (N := 5) hx hb hts (by decide +kernel) hown hK hP (0) rfl rfl 4 (by decide) (hts (.fieldLink RX1 28 "VinegarLoft$Row" "mayBeDrawn" "D") (by decide +kernel)) (fun _ h9 => h9) rfl dX1_bottlesReady_64 ?_
            refine lv_goto (tgt := 74) hx hb dX1_bottlesReady_67 (by decide) ?_
            refine kd_eq (show q = leB h q b from by unfold leB lesv; rw [if_pos c59]) ?_
            refine lv_dstore_n (lv' := [(3, .double (leB h q b)), (2, .ref (bs b)), (1, .int (nI b)), (0, .ref r)]) hx hb dX1_bottlesReady_74 rfl hl (by decide) rfl (fun ls hl => ?_)
            refine lv_dload_n hx hb dX1_bottlesReady_75 rfl (lv_at hl 0 rfl) ?_
            refine kd_0 hx hb dX1_bottlesReady_76 ?_
            refine kd_le (tgt := 90) hx hb dX1_bottlesReady_77 dX1_bottlesReady_78 (by decide) r4 (fun c77 => ?_) (fun c77 => ?_)
            · refine lv_iconst (v := 0) hx hb dX1_bottlesReady_90 (by decide) ?_
              exact W.iret hx hb hr (fun t ht hW => ⟨_, rfl, by rw [rdv_some ho, if_pos c15, if_neg (fun h9 => h9.elim c34 c45), if_neg c77], ht⟩) (fun q hq => absurd hq List.not_mem_nil) dX1_bottlesReady_91
            · refine lv_dload_n hx hb dX1_bottlesReady_81 rfl (lv_at hl 0 rfl) ?_
              refine lv_ldc2d hx hb hown (hts (.constantDouble RX1 104 4591870180066957722) (by decide +kernel)) dX1_bottlesReady_82 ?_
              refine lv_ddiv hx hb dX1_bottlesReady_85 (r5 c77) ?_
              refine lv_d2i hx hb dX1_bottlesReady_86 ?_
              refine lv_goto (tgt := 91) hx hb dX1_bottlesReady_87 (by decide) ?_
              exact W.iret hx hb hr (fun t ht hW => ⟨_, rfl, by rw [rdv_some ho, if_pos c15, if_neg (fun h9 => h9.elim c34 c45), if_pos c77], ht⟩) (fun q hq => absurd hq List.not_mem_nil) dX1_bottlesReady_91
        · refine lv_iconst (v := 0) hx hb dX1_bottlesReady_49 (by decide) ?_
          exact W.iret hx hb hr (fun t ht hW => ⟨_, rfl, by rw [rdv_some ho, if_pos c15, if_pos (Or.inr c45)], ht⟩) (fun q hq => absurd hq List.not_mem_nil) dX1_bottlesReady_50
    · refine lv_iconst (v := 0) hx hb dX1_bottlesReady_18 (by decide) ?_
      exact W.iret hx hb hr (fun t ht hW => ⟨_, rfl, by rw [rdv_some ho, if_neg c15], ht⟩) (fun q hq => absurd hq List.not_mem_nil) dX1_bottlesReady_19
set_option maxHeartbeats 4000000 in
set_option maxRecDepth 100000 in
/-- allLitres -/
theorem metX1_allLitres (l : Launch) (D : va_G) (r la : Nat) (bs : Nat → Nat) (cA : ClassId) (n : Nat) (hn : n ≤ 8) (wm df : Int32) (q : UInt64) (wd zs : Nat → Int32) (h : Nat → UInt64) (ho : suLok h n) : Met l yX1_allLitres wsX1_allLitres { frames := 0, cells := 0, slots := 0, locals := 0 } (Pr D [(cA, .object "VinegarLoft$Barrel")] [.ref r] (rowW r la bs cA (nI n) wm df q wd zs h)) (vp_Sd (fun r : UInt64 => r = suL h n)) 0 0 (fun _ => False) := by
  refine Met.ofW (cc := cX1_allLitres) (maxL := 4) (ret := (some .double)) (by decide) rfl ?_
  intro p e s m args below meth c s₁ B hml hv
  obtain ⟨rfl, hP, hK⟩ := hv
  have hx := B.exec
  have hb := B.bytes
  have hr := B.returns
  have hts := atoms_spec (ws := wsX1_allLitres) B.pre
  have hown : s.vm.findClass RX1 = some m.cls := findClass_of_methodNamed B.named
  have hlocks := B.notSynchronized
  have hl := lv_entry ([.ref r]) (n := 4) (Nat.le_of_ble_eq_true rfl)
  rw [lg_entry_eq]
  generalize (lg_sl ([.ref r]) ++ List.replicate (4 - (lg_sl ([.ref r])).length) Slot.unset).toArray = ls at hl ⊢
  have hl : lv_has ls 4 [(0, .ref r)] := hl
  refine kd_0 hx hb dX1_allLitres_0 ?_
  refine lv_dstore_n (lv' := [(1, .double 0), (0, .ref r)]) hx hb dX1_allLitres_1 rfl hl (by decide) rfl (fun ls hl => ?_)
  refine lv_iconst (v := 0) hx hb dX1_allLitres_2 (by decide) ?_
  refine lv_istore_n (lv' := [(3, .int 0), (1, .double 0), (0, .ref r)]) hx hb dX1_allLitres_3 rfl hl (by decide) rfl (fun ls hl => ?_)
  refine kW_upR (n) (fun i ls => lv_has ls 4 [(3, .int (nI i)), (1, .double (suL h i)), (0, .ref r)]) (fun i ls hi hl ih => ?_) (fun ls hl => ?_) (lv_sub hl [0, 1, 2] (rfl))
  · refine lv_iload_n hx hb dX1_allLitres_4 rfl (lv_at hl 0 rfl) ?_
    refine lv_aload_n hx hb dX1_allLitres_5 rfl (lv_at hl 2 rfl) ?_
    refine va_get (D := D) (ci := 1) (v := .int (nI n)) (C := RX1) (T := TX1) (N := 5) hx hb hts (by decide +kernel) hown hK hP (0) rfl rfl 1 (by decide) (hts (.fieldLink RX1 18 "VinegarLoft$Row" "count" "I") (by decide +kernel)) (fun _ h9 => h9) rfl dX1_allLitres_6 ?_
    refine lv_icmp_ge (tgt := 30) hx hb dX1_allLitres_9 (by decide) (fun c9 => absurd c9 (nI_ge hi (by omega))) (fun c9 => ?_)
    refine lv_dload_n hx hb dX1_allLitres_12 rfl (lv_at hl 1 rfl) ?_
    refine lv_aload_n hx hb dX1_allLitres_13 rfl (lv_at hl 2 rfl) ?_
    refine va_get (D := D) (ci := 1) (v := .ref la) (C := RX1) (T := TX1) (N := 5) hx hb hts (by decide +kernel) hown hK hP (0) rfl rfl 0 (by decide) (hts (.fieldLink RX1 11 "VinegarLoft$Row" "line" "[LVinegarLoft$Barrel;") (by decide +kernel)) (fun _ h9 => h9) rfl dX1_allLitres_14 ?_
    refine lv_iload_n hx hb dX1_allLitres_17 rfl (lv_at hl 0 rfl) ?_
    refine kx_ald hx hb hK hP (1) 0 rfl rfl (j := i) rfl (by omega) dX1_allLitres_18 ?_
    refine va_get (D := D) (ci := 0) (v := .double (h i)) (C := RX0) (T := TX0) (N := 6) hx hb hts (by decide +kernel) hown hK hP (2 + i) (rowW_b (show i < 8 by omega)) rfl 2 (by decide) (hts (.fieldLink RX1 49 "VinegarLoft$Barrel" "litres" "D") (by decide +kernel)) (fun _ h9 => h9) rfl dX1_allLitres_19 ?_
    refine lv_dadd hx hb dX1_allLitres_22 (ho i hi) ?_
    refine lv_dstore_n (lv' := [(1, .double (FP.dadd (suL h i) (h i))), (3, .int (nI i)), (0, .ref r)]) hx hb dX1_allLitres_23 rfl hl (by decide) rfl (fun ls hl => ?_)
    refine lv_iinc (v := nI (i + 1)) (lv' := [(3, .int (nI (i + 1))), (1, .double (FP.dadd (suL h i) (h i))), (0, .ref r)]) hx hb dX1_allLitres_24 hl (k := 1) rfl (nI_1 i) (by decide) rfl (fun ls hl => ?_)
    refine lv_goto (tgt := 4) hx hb dX1_allLitres_27 (by decide) ?_
    exact ih ls (lv_sub hl [0, 1, 2] (rfl))
  · refine lv_iload_n hx hb dX1_allLitres_4 rfl (lv_at hl 0 rfl) ?_
    refine lv_aload_n hx hb dX1_allLitres_5 rfl (lv_at hl 2 rfl) ?_
    refine va_get (D := D) (ci := 1) (v := .int (nI n)) (C := RX1) (T := TX1) (N := 5) hx hb hts (by decide +kernel) hown hK hP (0) rfl rfl 1 (by decide) (hts (.fieldLink RX1 18 "VinegarLoft$Row" "count" "I") (by decide +kernel)) (fun _ h9 => h9) rfl dX1_allLitres_6 ?_
    refine lv_icmp_ge (tgt := 30) hx hb dX1_allLitres_9 (by decide) (fun c9 => ?_) (fun c9 => absurd (nI_le (Nat.le_refl n) (by omega)) c9)
    refine lv_dload_n hx hb dX1_allLitres_30 rfl (lv_at hl 1 rfl) ?_
    exact W.dret hx hb hr (fun t ht hW => ⟨_, rfl, rfl, ht⟩) (fun q hq => absurd hq List.not_mem_nil) dX1_allLitres_31
set_option maxHeartbeats 4000000 in
set_option maxRecDepth 100000 in
/-- litresTimesAge -/
theorem metX1_litresTimesAge (l : Launch) (D : va_G) (r la : Nat) (bs : Nat → Nat) (cA : ClassId) (n : Nat) (hn : n ≤ 8) (wm df : Int32) (q : UInt64) (wd zs : Nat → Int32) (h : Nat → UInt64) (ho : suPok 8 h n) : Met l yX1_litresTimesAge wsX1_litresTimesAge { frames := 0, cells := 0, slots := 0, locals := 0 } (Pr D [(cA, .object "VinegarLoft$Barrel")] [.ref r] (rowW r la bs cA (nI n) wm df q wd zs h)) (vp_Sd (fun r : UInt64 => r = suP 8 h n)) 0 0 (fun _ => False) := by
  refine Met.ofW (cc := cX1_litresTimesAge) (maxL := 4) (ret := (some .double)) (by decide) rfl ?_
  intro p e s m args below meth c s₁ B hml hv
  obtain ⟨rfl, hP, hK⟩ := hv
  have hx := B.exec
  have hb := B.bytes
  have hr := B.returns
  have hts := atoms_spec (ws := wsX1_litresTimesAge) B.pre
  have hown : s.vm.findClass RX1 = some m.cls := findClass_of_methodNamed B.named
  have hlocks := B.notSynchronized
  have hl := lv_entry ([.ref r]) (n := 4) (Nat.le_of_ble_eq_true rfl)
  rw [lg_entry_eq]
  generalize (lg_sl ([.ref r]) ++ List.replicate (4 - (lg_sl ([.ref r])).length) Slot.unset).toArray = ls at hl ⊢
  have hl : lv_has ls 4 [(0, .ref r)] := hl
  refine kd_0 hx hb dX1_litresTimesAge_0 ?_
  refine lv_dstore_n (lv' := [(1, .double 0), (0, .ref r)]) hx hb dX1_litresTimesAge_1 rfl hl (by decide) rfl (fun ls hl => ?_)
  refine lv_iconst (v := 0) hx hb dX1_litresTimesAge_2 (by decide) ?_
  refine lv_istore_n (lv' := [(3, .int 0), (1, .double 0), (0, .ref r)]) hx hb dX1_litresTimesAge_3 rfl hl (by decide) rfl (fun ls hl => ?_)
  refine kW_upR (n) (fun i ls => lv_has ls 4 [(3, .int (nI i)), (1, .double (suP 8 h i)), (0, .ref r)]) (fun i ls hi hl ih => ?_) (fun ls hl => ?_) (lv_sub hl [0, 1, 2] (rfl))
  · refine lv_iload_n hx hb dX1_litresTimesAge_4 rfl (lv_at hl 0 rfl) ?_
    refine lv_aload_n hx hb dX1_litresTimesAge_5 rfl (lv_at hl 2 rfl) ?_
    refine va_get (D := D) (ci := 1) (v := .int (nI n)) (C := RX1) (T := TX1) (N := 5) hx hb hts (by decide +kernel) hown hK hP (0) rfl rfl 1 (by decide) (hts (.fieldLink RX1 18 "VinegarLoft$Row" "count" "I") (by decide +kernel)) (fun _ h9 => h9) rfl dX1_litresTimesAge_6 ?_
    refine lv_icmp_ge (tgt := 40) hx hb dX1_litresTimesAge_9 (by decide) (fun c9 => absurd c9 (nI_ge hi (by omega))) (fun c9 => ?_)
    refine lv_dload_n hx hb dX1_litresTimesAge_12 rfl (lv_at hl 1 rfl) ?_
    refine lv_aload_n hx hb dX1_litresTimesAge_13 rfl (lv_at hl 2 rfl) ?_
    refine va_get (D := D) (ci := 1) (v := .ref la) (C := RX1) (T := TX1) (N := 5) hx hb hts (by decide +kernel) hown hK hP (0) rfl rfl 0 (by decide) (hts (.fieldLink RX1 11 "VinegarLoft$Row" "line" "[LVinegarLoft$Barrel;") (by decide +kernel)) (fun _ h9 => h9) rfl dX1_litresTimesAge_14 ?_
    refine lv_iload_n hx hb dX1_litresTimesAge_17 rfl (lv_at hl 0 rfl) ?_
    refine kx_ald hx hb hK hP (1) 0 rfl rfl (j := i) rfl (by omega) dX1_litresTimesAge_18 ?_
    refine va_get (D := D) (ci := 0) (v := .double (h i)) (C := RX0) (T := TX0) (N := 6) hx hb hts (by decide +kernel) hown hK hP (2 + i) (rowW_b (show i < 8 by omega)) rfl 2 (by decide) (hts (.fieldLink RX1 49 "VinegarLoft$Barrel" "litres" "D") (by decide +kernel)) (fun _ h9 => h9) rfl dX1_litresTimesAge_19 ?_
    refine lv_aload_n hx hb dX1_litresTimesAge_22 rfl (lv_at hl 2 rfl) ?_
    refine va_get (D := D) (ci := 1) (v := .ref la) (C := RX1) (T := TX1) (N := 5) hx hb hts (by decide +kernel) hown hK hP (0) rfl rfl 0 (by decide) (hts (.fieldLink RX1 11 "VinegarLoft$Row" "line" "[LVinegarLoft$Barrel;") (by decide +kernel)) (fun _ h9 => h9) rfl dX1_litresTimesAge_23 ?_
    refine lv_iload_n hx hb dX1_litresTimesAge_26 rfl (lv_at hl 0 rfl) ?_
    refine kx_ald hx hb hK hP (1) 0 rfl rfl (j := i) rfl (by omega) dX1_litresTimesAge_27 ?_
    refine va_get (D := D) (ci := 0) (v := .double (h (8 + i))) (C := RX0) (T := TX0) (N := 6) hx hb hts (by decide +kernel) hown hK hP (2 + i) (rowW_b (show i < 8 by omega)) rfl 3 (by decide) (hts (.fieldLink RX1 66 "VinegarLoft$Barrel" "age" "D") (by decide +kernel)) (fun _ h9 => h9) rfl dX1_litresTimesAge_28 ?_
    refine lv_dmul hx hb dX1_litresTimesAge_31 (ho i hi).1 ?_
    refine lv_dadd hx hb dX1_litresTimesAge_32 (ho i hi).2 ?_
    refine lv_dstore_n (lv' := [(1, .double (FP.dadd (suP 8 h i) (FP.dmul (h i) (h (8 + i))))), (3, .int (nI i)), (0, .ref r)]) hx hb dX1_litresTimesAge_33 rfl hl (by decide) rfl (fun ls hl => ?_)
    refine lv_iinc (v := nI (i + 1)) (lv' := [(3, .int (nI (i + 1))), (1, .double (FP.dadd (suP 8 h i) (FP.dmul (h i) (h (8 + i))))), (0, .ref r)]) hx hb dX1_litresTimesAge_34 hl (k := 1) rfl (nI_1 i) (by decide) rfl (fun ls hl => ?_)
    refine lv_goto (tgt := 4) hx hb dX1_litresTimesAge_37 (by decide) ?_
    exact ih ls (lv_sub hl [0, 1, 2] (rfl))
  · refine lv_iload_n hx hb dX1_litresTimesAge_4 rfl (lv_at hl 0 rfl) ?_
    refine lv_aload_n hx hb dX1_litresTimesAge_5 rfl (lv_at hl 2 rfl) ?_
    refine va_get (D := D) (ci := 1) (v := .int (nI n)) (C := RX1) (T := TX1) (N := 5) hx hb hts (by decide +kernel) hown hK hP (0) rfl rfl 1 (by decide) (hts (.fieldLink RX1 18 "VinegarLoft$Row" "count" "I") (by decide +kernel)) (fun _ h9 => h9) rfl dX1_litresTimesAge_6 ?_
    refine lv_icmp_ge (tgt := 40) hx hb dX1_litresTimesAge_9 (by decide) (fun c9 => ?_) (fun c9 => absurd (nI_le (Nat.le_refl n) (by omega)) c9)
    refine lv_dload_n hx hb dX1_litresTimesAge_40 rfl (lv_at hl 1 rfl) ?_
    exact W.dret hx hb hr (fun t ht hW => ⟨_, rfl, rfl, ht⟩) (fun q hq => absurd hq List.not_mem_nil) dX1_litresTimesAge_41
set_option maxHeartbeats 4000000 in
set_option maxRecDepth 100000 in
/-- litresTimesSugar -/
theorem metX1_litresTimesSugar (l : Launch) (D : va_G) (r la : Nat) (bs : Nat → Nat) (cA : ClassId) (n : Nat) (hn : n ≤ 8) (wm df : Int32) (q : UInt64) (wd zs : Nat → Int32) (h : Nat → UInt64) (ho : suPok 24 h n) : Met l yX1_litresTimesSugar wsX1_litresTimesSugar { frames := 0, cells := 0, slots := 0, locals := 0 } (Pr D [(cA, .object "VinegarLoft$Barrel")] [.ref r] (rowW r la bs cA (nI n) wm df q wd zs h)) (vp_Sd (fun r : UInt64 => r = suP 24 h n)) 0 0 (fun _ => False) := by
  refine Met.ofW (cc := cX1_litresTimesSugar) (maxL := 4) (ret := (some .double)) (by decide) rfl ?_
  intro p e s m args below meth c s₁ B hml hv
  obtain ⟨rfl, hP, hK⟩ := hv
  have hx := B.exec
  have hb := B.bytes
  have hr := B.returns
  have hts := atoms_spec (ws := wsX1_litresTimesSugar) B.pre
  have hown : s.vm.findClass RX1 = some m.cls := findClass_of_methodNamed B.named
  have hlocks := B.notSynchronized
  have hl := lv_entry ([.ref r]) (n := 4) (Nat.le_of_ble_eq_true rfl)
  rw [lg_entry_eq]
  generalize (lg_sl ([.ref r]) ++ List.replicate (4 - (lg_sl ([.ref r])).length) Slot.unset).toArray = ls at hl ⊢
  have hl : lv_has ls 4 [(0, .ref r)] := hl
  refine kd_0 hx hb dX1_litresTimesSugar_0 ?_
  refine lv_dstore_n (lv' := [(1, .double 0), (0, .ref r)]) hx hb dX1_litresTimesSugar_1 rfl hl (by decide) rfl (fun ls hl => ?_)
  refine lv_iconst (v := 0) hx hb dX1_litresTimesSugar_2 (by decide) ?_
  refine lv_istore_n (lv' := [(3, .int 0), (1, .double 0), (0, .ref r)]) hx hb dX1_litresTimesSugar_3 rfl hl (by decide) rfl (fun ls hl => ?_)
  refine kW_upR (n) (fun i ls => lv_has ls 4 [(3, .int (nI i)), (1, .double (suP 24 h i)), (0, .ref r)]) (fun i ls hi hl ih => ?_) (fun ls hl => ?_) (lv_sub hl [0, 1, 2] (rfl))
  · refine lv_iload_n hx hb dX1_litresTimesSugar_4 rfl (lv_at hl 0 rfl) ?_
    refine lv_aload_n hx hb dX1_litresTimesSugar_5 rfl (lv_at hl 2 rfl) ?_
    refine va_get (D := D) (ci := 1) (v := .int (nI n)) (C := RX1) (T := TX1) (N := 5) hx hb hts (by decide +kernel) hown hK hP (0) rfl rfl 1 (by decide) (hts (.fieldLink RX1 18 "VinegarLoft$Row" "count" "I") (by decide +kernel)) (fun _ h9 => h9) rfl dX1_litresTimesSugar_6 ?_
    refine lv_icmp_ge (tgt := 40) hx hb dX1_litresTimesSugar_9 (by decide) (fun c9 => absurd c9 (nI_ge hi (by omega))) (fun c9 => ?_)
    refine lv_dload_n hx hb dX1_litresTimesSugar_12 rfl (lv_at hl 1 rfl) ?_
    refine lv_aload_n hx hb dX1_litresTimesSugar_13 rfl (lv_at hl 2 rfl) ?_
    refine va_get (D := D) (ci := 1) (v := .ref la) (C := RX1) (T := TX1) (N := 5) hx hb hts (by decide +kernel) hown hK hP (0) rfl rfl 0 (by decide) (hts (.fieldLink RX1 11 "VinegarLoft$Row" "line" "[LVinegarLoft$Barrel;") (by decide +kernel)) (fun _ h9 => h9) rfl dX1_litresTimesSugar_14 ?_
    refine lv_iload_n hx hb dX1_litresTimesSugar_17 rfl (lv_at hl 0 rfl) ?_
    refine kx_ald hx hb hK hP (1) 0 rfl rfl (j := i) rfl (by omega) dX1_litresTimesSugar_18 ?_
    refine va_get (D := D) (ci := 0) (v := .double (h i)) (C := RX0) (T := TX0) (N := 6) hx hb hts (by decide +kernel) hown hK hP (2 + i) (rowW_b (show i < 8 by omega)) rfl 2 (by decide) (hts (.fieldLink RX1 49 "VinegarLoft$Barrel" "litres" "D") (by decide +kernel)) (fun _ h9 => h9) rfl dX1_litresTimesSugar_19 ?_
    refine lv_aload_n hx hb dX1_litresTimesSugar_22 rfl (lv_at hl 2 rfl) ?_
    refine va_get (D := D) (ci := 1) (v := .ref la) (C := RX1) (T := TX1) (N := 5) hx hb hts (by decide +kernel) hown hK hP (0) rfl rfl 0 (by decide) (hts (.fieldLink RX1 11 "VinegarLoft$Row" "line" "[LVinegarLoft$Barrel;") (by decide +kernel)) (fun _ h9 => h9) rfl dX1_litresTimesSugar_23 ?_
    refine lv_iload_n hx hb dX1_litresTimesSugar_26 rfl (lv_at hl 0 rfl) ?_
    refine kx_ald hx hb hK hP (1) 0 rfl rfl (j := i) rfl (by omega) dX1_litresTimesSugar_27 ?_
    refine va_get (D := D) (ci := 0) (v := .double (h (24 + i))) (C := RX0) (T := TX0) (N := 6) hx hb hts (by decide +kernel) hown hK hP (2 + i) (rowW_b (show i < 8 by omega)) rfl 5 (by decide) (hts (.fieldLink RX1 72 "VinegarLoft$Barrel" "sugar" "D") (by decide +kernel)) (fun _ h9 => h9) rfl dX1_litresTimesSugar_28 ?_
    refine lv_dmul hx hb dX1_litresTimesSugar_31 (ho i hi).1 ?_
    refine lv_dadd hx hb dX1_litresTimesSugar_32 (ho i hi).2 ?_
    refine lv_dstore_n (lv' := [(1, .double (FP.dadd (suP 24 h i) (FP.dmul (h i) (h (24 + i))))), (3, .int (nI i)), (0, .ref r)]) hx hb dX1_litresTimesSugar_33 rfl hl (by decide) rfl (fun ls hl => ?_)
    refine lv_iinc (v := nI (i + 1)) (lv' := [(3, .int (nI (i + 1))), (1, .double (FP.dadd (suP 24 h i) (FP.dmul (h i) (h (24 + i))))), (0, .ref r)]) hx hb dX1_litresTimesSugar_34 hl (k := 1) rfl (nI_1 i) (by decide) rfl (fun ls hl => ?_)
    refine lv_goto (tgt := 4) hx hb dX1_litresTimesSugar_37 (by decide) ?_
    exact ih ls (lv_sub hl [0, 1, 2] (rfl))
  · refine lv_iload_n hx hb dX1_litresTimesSugar_4 rfl (lv_at hl 0 rfl) ?_
    refine lv_aload_n hx hb dX1_litresTimesSugar_5 rfl (lv_at hl 2 rfl) ?_
    refine va_get (D := D) (ci := 1) (v := .int (nI n)) (C := RX1) (T := TX1) (N := 5) hx hb hts (by decide +kernel) hown hK hP (0) rfl rfl 1 (by decide) (hts (.fieldLink RX1 18 "VinegarLoft$Row" "count" "I") (by decide +kernel)) (fun _ h9 => h9) rfl dX1_litresTimesSugar_6 ?_
    refine lv_icmp_ge (tgt := 40) hx hb dX1_litresTimesSugar_9 (by decide) (fun c9 => ?_) (fun c9 => absurd (nI_le (Nat.le_refl n) (by omega)) c9)
    refine lv_dload_n hx hb dX1_litresTimesSugar_40 rfl (lv_at hl 1 rfl) ?_
    exact W.dret hx hb hr (fun t ht hW => ⟨_, rfl, rfl, ht⟩) (fun q hq => absurd hq List.not_mem_nil) dX1_litresTimesSugar_41
set_option maxHeartbeats 4000000 in
set_option maxRecDepth 100000 in
/-- putBehind(wood, size), where a place is free -/
theorem metX1_putBehind (l : Launch) (D : va_G) (sz : Nat) (r la : Nat) (bs : Nat → Nat) (cA : ClassId) (n : Nat) (hn : n ≤ 8) (wm df : Int32) (q : UInt64) (wd zs : Nat → Int32) (h : Nat → UInt64) (hn8 : n < 8) (x z : Int32)  : Met l yX1_putBehind wsX1_putBehind { frames := 1, cells := 0, slots := 0, locals := 20 } (Pm D [(cA, .object "VinegarLoft$Barrel")] [.ref r, .int x, .int z] (rowW r la bs cA (nI n) wm df q wd zs h) sz) (va_Qi (fun (r : Int32) (_ : Unit) => r = nI n) (Bm D [(cA, .object "VinegarLoft$Barrel")] (va_A (rowW r la bs cA (nI n) wm df q wd zs h) sz) (rowW r la bs cA (nI (n + 1)) wm df q (va_up wd n x) (va_up zs n z) (hset h n 0 0 0 0))) (va_A (rowW r la bs cA (nI n) wm df q wd zs h) sz)) 0 0 (va_A (rowW r la bs cA (nI n) wm df q wd zs h) sz) := by
  refine Met.ofW (cc := cX1_putBehind) (maxL := 4) (ret := (some .int)) (by decide) rfl ?_
  intro p e s m args below meth c s₁ B hml hv
  obtain ⟨rfl, hsz, hP, hK, hD0⟩ := hv
  have hx := B.exec
  have hb := B.bytes
  have hr := B.returns
  have hts := atoms_spec (ws := wsX1_putBehind) B.pre
  have hown : s.vm.findClass RX1 = some m.cls := findClass_of_methodNamed B.named
  have hlocks := B.notSynchronized
  subst hsz
  have hD := hD0.self (sz := s.heap.size)
  generalize hAe : va_A (rowW r la bs cA (nI n) wm df q wd zs h) s.heap.size = A at hD ⊢
  have hA : ∀ q : Nat, s.heap.size ≤ q → A q := fun q h => by rw [← hAe]; exact Or.inr h
  refine kW_H (fun H hH => ?_)
  have hP : va_P D vwCl (rowW r la bs cA (nI n) wm df q wd zs h) H := by rw [hH]; exact hP
  have hS : va_S A s.heap H [] := by rw [hH]; exact va_S.rf
  have hl := lv_entry ([.ref r, .int x, .int z]) (n := 4) (Nat.le_of_ble_eq_true rfl)
  rw [lg_entry_eq]
  generalize (lg_sl ([.ref r, .int x, .int z]) ++ List.replicate (4 - (lg_sl ([.ref r, .int x, .int z])).length) Slot.unset).toArray = ls at hl ⊢
  have hl : lv_has ls 4 [(0, .ref r), (1, .int x), (2, .int z)] := hl
  refine lv_aload_n hx hb dX1_putBehind_0 rfl (lv_at hl 0 rfl) ?_
  refine kr_i (W.runV (As := []) (rest := []) ⟨hx, hb, hml, hown, hts⟩ (metX1_isComplete l D r la bs cA n hn wm df q wd zs h) (cwV 0 hts gX1_putBehind_X1_isComplete rfl rfl rfl (by decide +kernel) ⟨Nat.le_of_ble_eq_true rfl, Nat.le_of_ble_eq_true rfl⟩) (prV 1 0 RX1 TX1 5 rfl rfl hP hK) rfl rfl hl.1 rfl (lv_room (Nat.le_of_ble_eq_true rfl)) dX1_putBehind_1 ⟨Nat.le_of_ble_eq_true rfl, Nat.le_of_ble_eq_true rfl⟩) ?_
  refine lv_if_eq (tgt := 9) hx hb dX1_putBehind_4 (by decide) (fun c4 => ?_) (fun c4 => absurd (if_pos (nI_lt (a := n) (b := 8) hn8 (by decide))) c4)
  refine lv_aload_n hx hb dX1_putBehind_9 rfl (lv_at hl 0 rfl) ?_
  refine va_get (D := D) (ci := 1) (v := .ref la) (C := RX1) (T := TX1) (N := 5) hx hb hts (by decide +kernel) hown hK hP (0) rfl rfl 0 (by decide) (hts (.fieldLink RX1 11 "VinegarLoft$Row" "line" "[LVinegarLoft$Barrel;") (by decide +kernel)) (fun _ h9 => h9) rfl dX1_putBehind_10 ?_
  refine lv_aload_n hx hb dX1_putBehind_13 rfl (lv_at hl 0 rfl) ?_
  refine va_get (D := D) (ci := 1) (v := .int (nI n)) (C := RX1) (T := TX1) (N := 5) hx hb hts (by decide +kernel) hown hK hP (0) rfl rfl 1 (by decide) (hts (.fieldLink RX1 18 "VinegarLoft$Row" "count" "I") (by decide +kernel)) (fun _ h9 => h9) rfl dX1_putBehind_14 ?_
  refine kx_ald hx hb hK hP (1) 0 rfl rfl (j := n) rfl hn8 dX1_putBehind_17 ?_
  refine lv_astore_n (lv' := [(3, .ref (bs n)), (0, .ref r), (1, .int x), (2, .int z)]) hx hb dX1_putBehind_18 rfl hl (by decide) rfl (fun ls hl => ?_)
  refine lv_aload_n hx hb dX1_putBehind_19 rfl (lv_at hl 0 rfl) ?_
  refine lv_iload_n hx hb dX1_putBehind_20 rfl (lv_at hl 2 rfl) ?_
  refine va_put (D := D) (ci := 0) (v := .int x) (ty := .int) (C := RX0) (T := TX0) (N := 6) hx hb hts (by decide +kernel) tyX0 tyX0_ok nmX0 hown hK hP hD hS (2 + n) (rowW_b (show n < 8 by omega)) rfl 0 (by decide) (hts (.fieldLink RX1 43 "VinegarLoft$Barrel" "wood" "I") (by decide +kernel)) (fun _ h9 => h9) rfl (by decide +kernel) rfl rfl (Nat.le_of_ble_eq_true rfl) dX1_putBehind_21 (fun H locs hP hD hS => ?_)
  have hP : va_P D vwCl (rowW r la bs cA (nI n) wm df q (va_up wd n x) zs h) H := by rw [← rowW_sw (show n < 8 by omega)]; exact hP
  have hD : va_D A (rowW r la bs cA (nI n) wm df q (va_up wd n x) zs h) := by rw [← rowW_sw (show n < 8 by omega)]; exact hD
  refine lv_aload_n hx hb dX1_putBehind_24 rfl (lv_at hl 0 rfl) ?_
  refine lv_iload_n hx hb dX1_putBehind_25 rfl (lv_at hl 3 rfl) ?_
  refine va_put (D := D) (ci := 0) (v := .int z) (ty := .int) (C := RX0) (T := TX0) (N := 6) hx hb hts (by decide +kernel) tyX0 tyX0_ok nmX0 hown hK hP hD hS (2 + n) (rowW_b (show n < 8 by omega)) rfl 1 (by decide) (hts (.fieldLink RX1 36 "VinegarLoft$Barrel" "size" "I") (by decide +kernel)) (fun _ h9 => h9) rfl (by decide +kernel) rfl rfl (Nat.le_of_ble_eq_true rfl) dX1_putBehind_26 (fun H locs hP hD hS => ?_)
  have hP : va_P D vwCl (rowW r la bs cA (nI n) wm df q (va_up wd n x) (va_up zs n z) h) H := by rw [← rowW_sz (show n < 8 by omega)]; exact hP
  have hD : va_D A (rowW r la bs cA (nI n) wm df q (va_up wd n x) (va_up zs n z) h) := by rw [← rowW_sz (show n < 8 by omega)]; exact hD
  refine lv_aload_n hx hb dX1_putBehind_29 rfl (lv_at hl 0 rfl) ?_
  refine ko_v (va_runV (As := []) (rest := []) ⟨hx, hb, hml, hown, hts⟩ (metX0_clear l D H.size (bs n) ((va_up wd n x) n) ((va_up zs n z) n) (h n) (h (8 + n)) (h (16 + n)) (h (24 + n))) (cwV 0 hts gX1_putBehind_X0_clear rfl rfl rfl (by decide +kernel) ⟨Nat.le_of_ble_eq_true rfl, Nat.le_of_ble_eq_true rfl⟩) (pmV 0 0 RX0 TX0 6 rfl rfl (vj_oP (rowW_b (show n < 8 by omega)) hP) (hK.sub [] rfl) (vj_oD (rowW_b (show n < 8 by omega)) hD)) rfl rfl hl.1 rfl (lv_room (Nat.le_of_ble_eq_true rfl)) dX1_putBehind_30 ⟨Nat.le_of_ble_eq_true rfl, Nat.le_of_ble_eq_true rfl⟩) (rowW_b (show n < 8 by omega)) hP hD hS hA (fun H locs hP hD hS => ?_)
  have hP : va_P D vwCl (rowW r la bs cA (nI n) wm df q (va_up wd n x) (va_up zs n z) (hset h n 0 0 0 0)) H := by rw [← rowW_sh (show n < 8 by omega)]; exact hP
  have hD : va_D A (rowW r la bs cA (nI n) wm df q (va_up wd n x) (va_up zs n z) (hset h n 0 0 0 0)) := by rw [← rowW_sh (show n < 8 by omega)]; exact hD
  refine lv_aload_n hx hb dX1_putBehind_33 rfl (lv_at hl 1 rfl) ?_
  refine lv_dup hx hb dX1_putBehind_34 rfl ?_
  refine va_get (D := D) (ci := 1) (v := .int (nI n)) (C := RX1) (T := TX1) (N := 5) hx hb hts (by decide +kernel) hown hK hP (0) rfl rfl 1 (by decide) (hts (.fieldLink RX1 18 "VinegarLoft$Row" "count" "I") (by decide +kernel)) (fun _ h9 => h9) rfl dX1_putBehind_35 ?_
  refine lv_iconst (v := 1) hx hb dX1_putBehind_38 (by decide) ?_
  refine lv_iadd hx hb dX1_putBehind_39 ?_
  refine va_put (D := D) (ci := 1) (v := .int ((nI n) + 1)) (ty := .int) (C := RX1) (T := TX1) (N := 5) hx hb hts (by decide +kernel) tyX1 tyX1_ok nmX1 hown hK hP hD hS (0) rfl rfl 1 (by decide) (hts (.fieldLink RX1 18 "VinegarLoft$Row" "count" "I") (by decide +kernel)) (fun _ h9 => h9) rfl (by decide +kernel) rfl rfl (Nat.le_of_ble_eq_true rfl) dX1_putBehind_40 (fun H locs hP hD hS => ?_)
  have hP : va_P D vwCl (rowW r la bs cA ((nI n) + 1) wm df q (va_up wd n x) (va_up zs n z) (hset h n 0 0 0 0)) H := hP
  have hD : va_D A (rowW r la bs cA ((nI n) + 1) wm df q (va_up wd n x) (va_up zs n z) (hset h n 0 0 0 0)) := hD
  refine lv_aload_n hx hb dX1_putBehind_43 rfl (lv_at hl 1 rfl) ?_
  refine va_get (D := D) (ci := 1) (v := .int ((nI n) + 1)) (C := RX1) (T := TX1) (N := 5) hx hb hts (by decide +kernel) hown hK hP (0) rfl rfl 1 (by decide) (hts (.fieldLink RX1 18 "VinegarLoft$Row" "count" "I") (by decide +kernel)) (fun _ h9 => h9) rfl dX1_putBehind_44 ?_
  refine lv_iconst (v := 1) hx hb dX1_putBehind_47 (by decide) ?_
  refine lv_isub hx hb dX1_putBehind_48 ?_
  have hP : va_P D vwCl (rowW r la bs cA (nI (n + 1)) wm df q (va_up wd n x) (va_up zs n z) (hset h n 0 0 0 0)) H := by rw [← nI_1 n]; exact hP
  have hD : va_D A (rowW r la bs cA (nI (n + 1)) wm df q (va_up wd n x) (va_up zs n z) (hset h n 0 0 0 0)) := by rw [← nI_1 n]; exact hD
  exact W.iret hx hb hr (fun t ht hW => ⟨⟨_, (), rfl, by rw [nI_1 n]; exact nI_pred n, by rw [ht]; exact hP, va_K.moved hW.alike hK, hD⟩, hS.F ht⟩) hS.2.2 dX1_putBehind_49
def pmH (n : Nat) (zs : Nat → Int32) (h : Nat → UInt64) (x : UInt64) : Nat → UInt64 := if n = 0 then h else poH h (musv (zs 0) (h 0) x)
def pmR (n : Nat) (zs : Nat → Int32) (h : Nat → UInt64) (x : UInt64) : UInt64 := if n = 0 then 0 else poR (musv (zs 0) (h 0) x)
theorem nI_e0 {n : Nat} (hn : n < 2 ^ 31) : nI n = 0 ↔ n = 0 := by
  constructor
  · intro h
    exact Nat.eq_zero_of_not_pos fun h0 => nI_ne0 h0 hn h
  · rintro rfl; rfl
set_option maxHeartbeats 4000000 in
set_option maxRecDepth 100000 in
/-- pourMust(litres) -/
theorem metX1_pourMust (l : Launch) (D : va_G) (sz : Nat) (r la : Nat) (bs : Nat → Nat) (cA : ClassId) (n : Nat) (hn : n ≤ 8) (wm df : Int32) (q : UInt64) (wd zs : Nat → Int32) (h : Nat → UInt64) (x : Int32) (hp : n ≠ 0 → pook (zs 0) h (FP.i2d x)) : Met l yX1_pourMust wsX1_pourMust { frames := 2, cells := 0, slots := 0, locals := 57 } (Pm D [(cA, .object "VinegarLoft$Barrel")] [.ref r, .int x] (rowW r la bs cA (nI n) wm df q wd zs h) sz) (va_Qd (fun (r : UInt64) (_ : Unit) => r = pmR n zs h (FP.i2d x)) (Bm D [(cA, .object "VinegarLoft$Barrel")] (va_A (rowW r la bs cA (nI n) wm df q wd zs h) sz) (rowW r la bs cA (nI n) wm df q wd zs (pmH n zs h (FP.i2d x)))) (va_A (rowW r la bs cA (nI n) wm df q wd zs h) sz)) 0 0 (va_A (rowW r la bs cA (nI n) wm df q wd zs h) sz) := by
  refine Met.ofW (cc := cX1_pourMust) (maxL := 7) (ret := (some .double)) (by decide) rfl ?_
  intro p e s m args below meth c s₁ B hml hv
  obtain ⟨rfl, hsz, hP, hK, hD0⟩ := hv
  have hx := B.exec
  have hb := B.bytes
  have hr := B.returns
  have hts := atoms_spec (ws := wsX1_pourMust) B.pre
  have hown : s.vm.findClass RX1 = some m.cls := findClass_of_methodNamed B.named
  have hlocks := B.notSynchronized
  subst hsz
  have hD := hD0.self (sz := s.heap.size)
  generalize hAe : va_A (rowW r la bs cA (nI n) wm df q wd zs h) s.heap.size = A at hD ⊢
  have hA : ∀ q : Nat, s.heap.size ≤ q → A q := fun q h => by rw [← hAe]; exact Or.inr h
  refine kW_H (fun H hH => ?_)
  have hP : va_P D vwCl (rowW r la bs cA (nI n) wm df q wd zs h) H := by rw [hH]; exact hP
  have hS : va_S A s.heap H [] := by rw [hH]; exact va_S.rf
  have hl := lv_entry ([.ref r, .int x]) (n := 7) (Nat.le_of_ble_eq_true rfl)
  rw [lg_entry_eq]
  generalize (lg_sl ([.ref r, .int x]) ++ List.replicate (7 - (lg_sl ([.ref r, .int x])).length) Slot.unset).toArray = ls at hl ⊢
  have hl : lv_has ls 7 [(0, .ref r), (1, .int x)] := hl
  refine lv_aload_n hx hb dX1_pourMust_0 rfl (lv_at hl 0 rfl) ?_
  refine va_get (D := D) (ci := 1) (v := .int (nI n)) (C := RX1) (T := TX1) (N := 5) hx hb hts (by decide +kernel) hown hK hP (0) rfl rfl 1 (by decide) (hts (.fieldLink RX1 18 "VinegarLoft$Row" "count" "I") (by decide +kernel)) (fun _ h9 => h9) rfl dX1_pourMust_1 ?_
  refine lv_if_ne (tgt := 9) hx hb dX1_pourMust_4 (by decide) (fun c4 => ?_) (fun c4 => ?_)
  · have h0 : n ≠ 0 := fun h => c4 ((nI_e0 (by omega)).mpr h)
    obtain ⟨p1, p2, p3, p4⟩ := hp h0
    refine lv_aload_n hx hb dX1_pourMust_9 rfl (lv_at hl 0 rfl) ?_
    refine va_get (D := D) (ci := 1) (v := .ref la) (C := RX1) (T := TX1) (N := 5) hx hb hts (by decide +kernel) hown hK hP (0) rfl rfl 0 (by decide) (hts (.fieldLink RX1 11 "VinegarLoft$Row" "line" "[LVinegarLoft$Barrel;") (by decide +kernel)) (fun _ h9 => h9) rfl dX1_pourMust_10 ?_
    refine lv_iconst (v := 0) hx hb dX1_pourMust_13 (by decide) ?_
    refine kx_ald hx hb hK hP (1) 0 rfl rfl (j := 0) rfl (by decide) dX1_pourMust_14 ?_
    refine lv_astore_n (lv' := [(2, .ref (bs 0)), (0, .ref r), (1, .int x)]) hx hb dX1_pourMust_15 rfl hl (by decide) rfl (fun ls hl => ?_)
    refine lv_aload_n hx hb dX1_pourMust_16 rfl (lv_at hl 0 rfl) ?_
    refine va_get (D := D) (ci := 0) (v := .int (zs 0)) (C := RX0) (T := TX0) (N := 6) hx hb hts (by decide +kernel) hown hK hP (2) rfl rfl 1 (by decide) (hts (.fieldLink RX1 36 "VinegarLoft$Barrel" "size" "I") (by decide +kernel)) (fun _ h9 => h9) rfl dX1_pourMust_17 ?_
    refine lv_i2d hx hb dX1_pourMust_20 ?_
    refine lv_aload_n hx hb dX1_pourMust_21 rfl (lv_at hl 0 rfl) ?_
    refine va_get (D := D) (ci := 0) (v := .double (h 0)) (C := RX0) (T := TX0) (N := 6) hx hb hts (by decide +kernel) hown hK hP (2) rfl rfl 2 (by decide) (hts (.fieldLink RX1 49 "VinegarLoft$Barrel" "litres" "D") (by decide +kernel)) (fun _ h9 => h9) rfl dX1_pourMust_22 ?_
    refine lv_dsub hx hb dX1_pourMust_25 p1 ?_
    refine lv_dstore_n (lv' := [(3, .double (FP.dsub (FP.i2d (zs 0)) (h 0))), (2, .ref (bs 0)), (0, .ref r), (1, .int x)]) hx hb dX1_pourMust_26 rfl hl (by decide) rfl (fun ls hl => ?_)
    refine lv_iload_n hx hb dX1_pourMust_27 rfl (lv_at hl 3 rfl) ?_
    refine lv_i2d hx hb dX1_pourMust_28 ?_
    refine lv_dload_n hx hb dX1_pourMust_29 rfl (lv_at hl 0 rfl) ?_
    refine kd_ge (tgt := 39) hx hb dX1_pourMust_30 dX1_pourMust_31 (by decide) p2 (fun c30 => ?_) (fun c30 => ?_)
    · refine lv_dload_n hx hb dX1_pourMust_39 rfl (lv_at hl 0 rfl) ?_
      refine kd_eq (show (FP.dsub (FP.i2d (zs 0)) (h 0)) = musv (zs 0) (h 0) (FP.i2d x) from by unfold musv lesv; rw [if_neg c30]) ?_
      refine lv_dstore (lv' := [(5, .double (musv (zs 0) (h 0) (FP.i2d x))), (3, .double (FP.dsub (FP.i2d (zs 0)) (h 0))), (2, .ref (bs 0)), (0, .ref r), (1, .int x)]) hx hb dX1_pourMust_40 hl (by decide) rfl (fun ls hl => ?_)
      refine lv_dload hx hb dX1_pourMust_42 (lv_at hl 0 rfl) ?_
      refine kd_0 hx hb dX1_pourMust_44 ?_
      refine kd_gt (tgt := 51) hx hb dX1_pourMust_45 dX1_pourMust_46 (by decide) p3 (fun c45 => ?_) (fun c45 => ?_)
      · refine lv_aload_n hx hb dX1_pourMust_51 rfl (lv_at hl 2 rfl) ?_
        refine lv_dload hx hb dX1_pourMust_52 (lv_at hl 0 rfl) ?_
        refine kd_0 hx hb dX1_pourMust_54 ?_
        refine kd_1 hx hb dX1_pourMust_55 ?_
        refine lv_ldc2d hx hb hown (hts (.constantDouble RX1 52 4629137466983448576) (by decide +kernel)) dX1_pourMust_56 ?_
        obtain ⟨m1, m2, m3⟩ := p4 c45
        refine ko_v (k := 2) (va_runV (As := [.double (musv (zs 0) (h 0) (FP.i2d x)), .double 0, .double 4607182418800017408, .double 4629137466983448576]) (rest := []) ⟨hx, hb, hml, hown, hts⟩ (metX0_mixIn l D H.size (bs 0) (wd 0) (zs 0) (h 0) (h 8) (h 16) (h 24) (musv (zs 0) (h 0) (FP.i2d x)) 0 4607182418800017408 4629137466983448576 m1 m2 m3) (cwV 4 hts gX1_pourMust_X0_mixIn rfl rfl rfl (by decide +kernel) ⟨Nat.le_of_ble_eq_true rfl, Nat.le_of_ble_eq_true rfl⟩) (pmV 0 0 RX0 TX0 6 rfl rfl (vj_oP (k := 2) rfl hP) (hK.sub [] rfl) (vj_oD (k := 2) rfl hD)) rfl rfl hl.1 rfl (lv_room (Nat.le_of_ble_eq_true rfl)) dX1_pourMust_59 ⟨Nat.le_of_ble_eq_true rfl, Nat.le_of_ble_eq_true rfl⟩) rfl hP hD hS hA (fun H locs hP hD hS => ?_)
        have hP : va_P D vwCl (rowW r la bs cA (nI n) wm df q wd zs (poH h (musv (zs 0) (h 0) (FP.i2d x)))) H := by unfold poH; rw [if_pos c45, ← rowW_sh (i := 0) (by decide)]; exact hP
        have hD : va_D A (rowW r la bs cA (nI n) wm df q wd zs (poH h (musv (zs 0) (h 0) (FP.i2d x)))) := by unfold poH; rw [if_pos c45, ← rowW_sh (i := 0) (by decide)]; exact hD
        refine lv_dload hx hb dX1_pourMust_62 (lv_at hl 0 rfl) ?_
        have hP : va_P D vwCl (rowW r la bs cA (nI n) wm df q wd zs (pmH n zs h (FP.i2d x))) H := by unfold pmH; rw [if_neg h0]; exact hP
        have hD : va_D A (rowW r la bs cA (nI n) wm df q wd zs (pmH n zs h (FP.i2d x))) := by unfold pmH; rw [if_neg h0]; exact hD
        exact W.dret hx hb hr (fun t ht hW => ⟨⟨_, (), rfl, by unfold pmR; rw [if_neg h0]; unfold poR; rw [if_pos c45], by rw [ht]; exact hP, va_K.moved hW.alike hK, hD⟩, hS.F ht⟩) hS.2.2 dX1_pourMust_64
      · refine kd_0 hx hb dX1_pourMust_49 ?_
        have hP : va_P D vwCl (rowW r la bs cA (nI n) wm df q wd zs (pmH n zs h (FP.i2d x))) H := by unfold pmH; rw [if_neg h0]; unfold poH; rw [if_neg c45]; exact hP
        have hD : va_D A (rowW r la bs cA (nI n) wm df q wd zs (pmH n zs h (FP.i2d x))) := by unfold pmH; rw [if_neg h0]; unfold poH; rw [if_neg c45]; exact hD
        exact W.dret hx hb hr (fun t ht hW => ⟨⟨_, (), rfl, by unfold pmR; rw [if_neg h0]; unfold poR; rw [if_neg c45], by rw [ht]; exact hP, va_K.moved hW.alike hK, hD⟩, hS.F ht⟩) hS.2.2 dX1_pourMust_50
    · refine lv_iload_n hx hb dX1_pourMust_34 rfl (lv_at hl 3 rfl) ?_
      refine lv_i2d hx hb dX1_pourMust_35 ?_
      refine lv_goto (tgt := 40) hx hb dX1_pourMust_36 (by decide) ?_
      refine kd_eq (show (FP.i2d x) = musv (zs 0) (h 0) (FP.i2d x) from by unfold musv lesv; rw [if_pos c30]) ?_
      refine lv_dstore (lv' := [(5, .double (musv (zs 0) (h 0) (FP.i2d x))), (3, .double (FP.dsub (FP.i2d (zs 0)) (h 0))), (2, .ref (bs 0)), (0, .ref r), (1, .int x)]) hx hb dX1_pourMust_40 hl (by decide) rfl (fun ls hl => ?_)
      refine lv_dload hx hb dX1_pourMust_42 (lv_at hl 0 rfl) ?_
      refine kd_0 hx hb dX1_pourMust_44 ?_
      refine kd_gt (tgt := 51) hx hb dX1_pourMust_45 dX1_pourMust_46 (by decide) p3 (fun c45 => ?_) (fun c45 => ?_)
      · refine lv_aload_n hx hb dX1_pourMust_51 rfl (lv_at hl 2 rfl) ?_
        refine lv_dload hx hb dX1_pourMust_52 (lv_at hl 0 rfl) ?_
        refine kd_0 hx hb dX1_pourMust_54 ?_
        refine kd_1 hx hb dX1_pourMust_55 ?_
        refine lv_ldc2d hx hb hown (hts (.constantDouble RX1 52 4629137466983448576) (by decide +kernel)) dX1_pourMust_56 ?_
        obtain ⟨m1, m2, m3⟩ := p4 c45
        refine ko_v (k := 2) (va_runV (As := [.double (musv (zs 0) (h 0) (FP.i2d x)), .double 0, .double 4607182418800017408, .double 4629137466983448576]) (rest := []) ⟨hx, hb, hml, hown, hts⟩ (metX0_mixIn l D H.size (bs 0) (wd 0) (zs 0) (h 0) (h 8) (h 16) (h 24) (musv (zs 0) (h 0) (FP.i2d x)) 0 4607182418800017408 4629137466983448576 m1 m2 m3) (cwV 4 hts gX1_pourMust_X0_mixIn rfl rfl rfl (by decide +kernel) ⟨Nat.le_of_ble_eq_true rfl, Nat.le_of_ble_eq_true rfl⟩) (pmV 0 0 RX0 TX0 6 rfl rfl (vj_oP (k := 2) rfl hP) (hK.sub [] rfl) (vj_oD (k := 2) rfl hD)) rfl rfl hl.1 rfl (lv_room (Nat.le_of_ble_eq_true rfl)) dX1_pourMust_59 ⟨Nat.le_of_ble_eq_true rfl, Nat.le_of_ble_eq_true rfl⟩) rfl hP hD hS hA (fun H locs hP hD hS => ?_)
        have hP : va_P D vwCl (rowW r la bs cA (nI n) wm df q wd zs (poH h (musv (zs 0) (h 0) (FP.i2d x)))) H := by unfold poH; rw [if_pos c45, ← rowW_sh (i := 0) (by decide)]; exact hP
        have hD : va_D A (rowW r la bs cA (nI n) wm df q wd zs (poH h (musv (zs 0) (h 0) (FP.i2d x)))) := by unfold poH; rw [if_pos c45, ← rowW_sh (i := 0) (by decide)]; exact hD
        refine lv_dload hx hb dX1_pourMust_62 (lv_at hl 0 rfl) ?_
        have hP : va_P D vwCl (rowW r la bs cA (nI n) wm df q wd zs (pmH n zs h (FP.i2d x))) H := by unfold pmH; rw [if_neg h0]; exact hP
        have hD : va_D A (rowW r la bs cA (nI n) wm df q wd zs (pmH n zs h (FP.i2d x))) := by unfold pmH; rw [if_neg h0]; exact hD
        exact W.dret hx hb hr (fun t ht hW => ⟨⟨_, (), rfl, by unfold pmR; rw [if_neg h0]; unfold poR; rw [if_pos c45], by rw [ht]; exact hP, va_K.moved hW.alike hK, hD⟩, hS.F ht⟩) hS.2.2 dX1_pourMust_64
      · refine kd_0 hx hb dX1_pourMust_49 ?_
        have hP : va_P D vwCl (rowW r la bs cA (nI n) wm df q wd zs (pmH n zs h (FP.i2d x))) H := by unfold pmH; rw [if_neg h0]; unfold poH; rw [if_neg c45]; exact hP
        have hD : va_D A (rowW r la bs cA (nI n) wm df q wd zs (pmH n zs h (FP.i2d x))) := by unfold pmH; rw [if_neg h0]; unfold poH; rw [if_neg c45]; exact hD
        exact W.dret hx hb hr (fun t ht hW => ⟨⟨_, (), rfl, by unfold pmR; rw [if_neg h0]; unfold poR; rw [if_neg c45], by rw [ht]; exact hP, va_K.moved hW.alike hK, hD⟩, hS.F ht⟩) hS.2.2 dX1_pourMust_50
  · have h0 : n = 0 := (nI_e0 (by omega)).mp c4
    refine kd_0 hx hb dX1_pourMust_7 ?_
    have hP : va_P D vwCl (rowW r la bs cA (nI n) wm df q wd zs (pmH n zs h (FP.i2d x))) H := by unfold pmH; rw [if_pos h0]; exact hP
    have hD : va_D A (rowW r la bs cA (nI n) wm df q wd zs (pmH n zs h (FP.i2d x))) := by unfold pmH; rw [if_pos h0]; exact hD
    exact W.dret hx hb hr (fun t ht hW => ⟨⟨_, (), rfl, by unfold pmR; rw [if_pos h0], by rw [ht]; exact hP, va_K.moved hW.alike hK, hD⟩, hS.F ht⟩) hS.2.2 dX1_pourMust_8
set_option maxHeartbeats 4000000 in
set_option maxRecDepth 100000 in
/-- passBetween(ahead, behind), where something goes -/
theorem metX1_passBetween_y (l : Launch) (D : va_G) (sz : Nat) (x1 x2 : Nat) (w1 z1 : Int32) (l1 g1 a1 s1 : UInt64) (w2 z2 : Int32) (l2 g2 a2 s2 : UInt64) (hp : paok z2 l1 g1 a1 s1 l2 g2 a2 s2) (hg : FP.dcmp (goev z2 l2 l1) 0 = some .gt) : Met l yX1_passBetween wsX1_passBetween { frames := 2, cells := 0, slots := 0, locals := 57 } (Pm D [] [.ref x1, .ref x2] ([(x1, .inr (0, [.int w1, .int z1, .double l1, .double g1, .double a1, .double s1])), (x2, .inr (0, [.int w2, .int z2, .double l2, .double g2, .double a2, .double s2]))]) sz) (va_Qd (fun (r : UInt64) (_ : Unit) => r = goev z2 l2 l1) (Bm D [] (va_A ([(x1, .inr (0, [.int w1, .int z1, .double l1, .double g1, .double a1, .double s1])), (x2, .inr (0, [.int w2, .int z2, .double l2, .double g2, .double a2, .double s2]))]) sz) ([(x1, .inr (0, [.int w1, .int z1, .double (FP.dsub l1 (goev z2 l2 l1)), .double g1, .double a1, .double s1])), (x2, .inr (0, [.int w2, .int z2, .double (FP.dadd l2 (goev z2 l2 l1)), .double (mixv l2 g2 (goev z2 l2 l1) g1), .double (mixv l2 a2 (goev z2 l2 l1) a1), .double (mixv l2 s2 (goev z2 l2 l1) s1)]))])) (va_A ([(x1, .inr (0, [.int w1, .int z1, .double l1, .double g1, .double a1, .double s1])), (x2, .inr (0, [.int w2, .int z2, .double l2, .double g2, .double a2, .double s2]))]) sz)) 0 0 (va_A ([(x1, .inr (0, [.int w1, .int z1, .double l1, .double g1, .double a1, .double s1])), (x2, .inr (0, [.int w2, .int z2, .double l2, .double g2, .double a2, .double s2]))]) sz) := by
  refine Met.ofW (cc := cX1_passBetween) (maxL := 8) (ret := (some .double)) (by decide) rfl ?_
  intro p e s m args below meth c s₁ B hml hv
  obtain ⟨rfl, hsz, hP, hK, hD0⟩ := hv
  have hx := B.exec
  have hb := B.bytes
  have hr := B.returns
  have hts := atoms_spec (ws := wsX1_passBetween) B.pre
  have hown : s.vm.findClass RX1 = some m.cls := findClass_of_methodNamed B.named
  have hlocks := B.notSynchronized
  subst hsz
  have hD := hD0.self (sz := s.heap.size)
  generalize hAe : va_A ([(x1, .inr (0, [.int w1, .int z1, .double l1, .double g1, .double a1, .double s1])), (x2, .inr (0, [.int w2, .int z2, .double l2, .double g2, .double a2, .double s2]))]) s.heap.size = A at hD ⊢
  have hA : ∀ q : Nat, s.heap.size ≤ q → A q := fun q h => by rw [← hAe]; exact Or.inr h
  refine kW_H (fun H hH => ?_)
  have hP : va_P D vwCl ([(x1, .inr (0, [.int w1, .int z1, .double l1, .double g1, .double a1, .double s1])), (x2, .inr (0, [.int w2, .int z2, .double l2, .double g2, .double a2, .double s2]))]) H := by rw [hH]; exact hP
  have hS : va_S A s.heap H [] := by rw [hH]; exact va_S.rf
  have hl := lv_entry ([.ref x1, .ref x2]) (n := 8) (Nat.le_of_ble_eq_true rfl)
  rw [lg_entry_eq]
  generalize (lg_sl ([.ref x1, .ref x2]) ++ List.replicate (8 - (lg_sl ([.ref x1, .ref x2])).length) Slot.unset).toArray = ls at hl ⊢
  have hl : lv_has ls 8 [(0, .ref x1), (1, .ref x2)] := hl
  obtain ⟨q1, q2, q3, q4, q5, q6⟩ := hp
  obtain ⟨m1, m2, m3, m4, m5⟩ := q6 hg
  refine lv_ldc2d hx hb hown (hts (.constantDouble RX1 62 4606281698874543309) (by decide +kernel)) dX1_passBetween_0 ?_
  refine lv_aload_n hx hb dX1_passBetween_3 rfl (lv_at hl 1 rfl) ?_
  refine va_get (D := D) (ci := 0) (v := .int z2) (C := RX0) (T := TX0) (N := 6) hx hb hts (by decide +kernel) hown hK hP (1) rfl rfl 1 (by decide) (hts (.fieldLink RX1 36 "VinegarLoft$Barrel" "size" "I") (by decide +kernel)) (fun _ h9 => h9) rfl dX1_passBetween_4 ?_
  refine lv_i2d hx hb dX1_passBetween_7 ?_
  refine lv_dmul hx hb dX1_passBetween_8 q1 ?_
  refine lv_aload_n hx hb dX1_passBetween_9 rfl (lv_at hl 1 rfl) ?_
  refine va_get (D := D) (ci := 0) (v := .double l2) (C := RX0) (T := TX0) (N := 6) hx hb hts (by decide +kernel) hown hK hP (1) rfl rfl 2 (by decide) (hts (.fieldLink RX1 49 "VinegarLoft$Barrel" "litres" "D") (by decide +kernel)) (fun _ h9 => h9) rfl dX1_passBetween_10 ?_
  refine lv_dsub hx hb dX1_passBetween_13 q2 ?_
  refine lv_dstore_n (lv' := [(2, .double (FP.dsub (FP.dmul 4606281698874543309 (FP.i2d z2)) l2)), (0, .ref x1), (1, .ref x2)]) hx hb dX1_passBetween_14 rfl hl (by decide) rfl (fun ls hl => ?_)
  refine lv_ldc2d hx hb hown (hts (.constantDouble RX1 64 4602678819172646912) (by decide +kernel)) dX1_passBetween_15 ?_
  refine lv_aload_n hx hb dX1_passBetween_18 rfl (lv_at hl 1 rfl) ?_
  refine va_get (D := D) (ci := 0) (v := .double l1) (C := RX0) (T := TX0) (N := 6) hx hb hts (by decide +kernel) hown hK hP (0) rfl rfl 2 (by decide) (hts (.fieldLink RX1 49 "VinegarLoft$Barrel" "litres" "D") (by decide +kernel)) (fun _ h9 => h9) rfl dX1_passBetween_19 ?_
  refine lv_dmul hx hb dX1_passBetween_22 q3 ?_
  refine lv_dstore (lv' := [(4, .double (FP.dmul 4602678819172646912 l1)), (2, .double (FP.dsub (FP.dmul 4606281698874543309 (FP.i2d z2)) l2)), (0, .ref x1), (1, .ref x2)]) hx hb dX1_passBetween_23 hl (by decide) rfl (fun ls hl => ?_)
  refine lv_dload_n hx hb dX1_passBetween_25 rfl (lv_at hl 1 rfl) ?_
  refine lv_dload hx hb dX1_passBetween_26 (lv_at hl 0 rfl) ?_
  refine kd_ge (tgt := 36) hx hb dX1_passBetween_28 dX1_passBetween_29 (by decide) q4 (fun c28 => ?_) (fun c28 => ?_)
  · refine lv_dload hx hb dX1_passBetween_36 (lv_at hl 0 rfl) ?_
    refine kd_eq (show (FP.dmul 4602678819172646912 l1) = goev z2 l2 l1 from by unfold goev lesv; rw [if_neg c28]) ?_
    refine lv_dstore (lv' := [(6, .double (goev z2 l2 l1)), (4, .double (FP.dmul 4602678819172646912 l1)), (2, .double (FP.dsub (FP.dmul 4606281698874543309 (FP.i2d z2)) l2)), (0, .ref x1), (1, .ref x2)]) hx hb dX1_passBetween_38 hl (by decide) rfl (fun ls hl => ?_)
    refine lv_dload hx hb dX1_passBetween_40 (lv_at hl 0 rfl) ?_
    refine kd_0 hx hb dX1_passBetween_42 ?_
    refine kd_gt (tgt := 49) hx hb dX1_passBetween_43 dX1_passBetween_44 (by decide) q5 (fun c43 => ?_) (fun c43 => absurd hg c43)
    refine lv_aload_n hx hb dX1_passBetween_49 rfl (lv_at hl 4 rfl) ?_
    refine lv_dload hx hb dX1_passBetween_50 (lv_at hl 0 rfl) ?_
    refine lv_aload_n hx hb dX1_passBetween_52 rfl (lv_at hl 3 rfl) ?_
    refine va_get (D := D) (ci := 0) (v := .double g1) (C := RX0) (T := TX0) (N := 6) hx hb hts (by decide +kernel) hown hK hP (0) rfl rfl 3 (by decide) (hts (.fieldLink RX1 66 "VinegarLoft$Barrel" "age" "D") (by decide +kernel)) (fun _ h9 => h9) rfl dX1_passBetween_53 ?_
    refine lv_aload_n hx hb dX1_passBetween_56 rfl (lv_at hl 3 rfl) ?_
    refine va_get (D := D) (ci := 0) (v := .double a1) (C := RX0) (T := TX0) (N := 6) hx hb hts (by decide +kernel) hown hK hP (0) rfl rfl 4 (by decide) (hts (.fieldLink RX1 69 "VinegarLoft$Barrel" "acid" "D") (by decide +kernel)) (fun _ h9 => h9) rfl dX1_passBetween_57 ?_
    refine lv_aload_n hx hb dX1_passBetween_60 rfl (lv_at hl 3 rfl) ?_
    refine va_get (D := D) (ci := 0) (v := .double s1) (C := RX0) (T := TX0) (N := 6) hx hb hts (by decide +kernel) hown hK hP (0) rfl rfl 5 (by decide) (hts (.fieldLink RX1 72 "VinegarLoft$Barrel" "sugar" "D") (by decide +kernel)) (fun _ h9 => h9) rfl dX1_passBetween_61 ?_
    refine ko_v (k := 1) (va_runV (As := [.double (goev z2 l2 l1), .double g1, .double a1, .double s1]) (rest := []) ⟨hx, hb, hml, hown, hts⟩ (metX0_mixIn l D H.size x2 w2 z2 l2 g2 a2 s2 (goev z2 l2 l1) g1 a1 s1 m1 m2 m3) (cwV 4 hts gX1_passBetween_X0_mixIn rfl rfl rfl (by decide +kernel) ⟨Nat.le_of_ble_eq_true rfl, Nat.le_of_ble_eq_true rfl⟩) (pmV 0 0 RX0 TX0 6 rfl rfl (vj_oP (k := 1) rfl hP) (hK.sub [] rfl) (vj_oD (k := 1) rfl hD)) rfl rfl hl.1 rfl (lv_room (Nat.le_of_ble_eq_true rfl)) dX1_passBetween_64 ⟨Nat.le_of_ble_eq_true rfl, Nat.le_of_ble_eq_true rfl⟩) rfl hP hD hS hA (fun H locs hP hD hS => ?_)
    have hP : va_P D vwCl [(x1, .inr (0, [.int w1, .int z1, .double l1, .double g1, .double a1, .double s1])), (x2, .inr (0, [.int w2, .int z2, .double (FP.dadd l2 (goev z2 l2 l1)), .double (mixv l2 g2 (goev z2 l2 l1) g1), .double (mixv l2 a2 (goev z2 l2 l1) a1), .double (mixv l2 s2 (goev z2 l2 l1) s1)]))] H := hP
    have hD : va_D A [(x1, .inr (0, [.int w1, .int z1, .double l1, .double g1, .double a1, .double s1])), (x2, .inr (0, [.int w2, .int z2, .double (FP.dadd l2 (goev z2 l2 l1)), .double (mixv l2 g2 (goev z2 l2 l1) g1), .double (mixv l2 a2 (goev z2 l2 l1) a1), .double (mixv l2 s2 (goev z2 l2 l1) s1)]))] := hD
    refine lv_aload_n hx hb dX1_passBetween_67 rfl (lv_at hl 3 rfl) ?_
    refine lv_dload hx hb dX1_passBetween_68 (lv_at hl 0 rfl) ?_
    refine ko_v (k := 0) (va_runV (As := [.double (goev z2 l2 l1)]) (rest := []) ⟨hx, hb, hml, hown, hts⟩ (metX0_takeOut l D H.size x1 w1 z1 l1 g1 a1 s1 (goev z2 l2 l1) m4 (gt_ne m5)) (cwV 1 hts gX1_passBetween_X0_takeOut rfl rfl rfl (by decide +kernel) ⟨Nat.le_of_ble_eq_true rfl, Nat.le_of_ble_eq_true rfl⟩) (pmV 0 0 RX0 TX0 6 rfl rfl (vj_oP (k := 0) rfl hP) (hK.sub [] rfl) (vj_oD (k := 0) rfl hD)) rfl rfl hl.1 rfl (lv_room (Nat.le_of_ble_eq_true rfl)) dX1_passBetween_70 ⟨Nat.le_of_ble_eq_true rfl, Nat.le_of_ble_eq_true rfl⟩) rfl hP hD hS hA (fun H locs hP hD hS => ?_)
    have ek : tkE w1 z1 l1 g1 a1 s1 (goev z2 l2 l1) = EB w1 z1 (FP.dsub l1 (goev z2 l2 l1)) g1 a1 s1 := by unfold tkE; rw [if_pos m5]
    rw [ek] at hP hD
    have hP : va_P D vwCl [(x1, .inr (0, [.int w1, .int z1, .double (FP.dsub l1 (goev z2 l2 l1)), .double g1, .double a1, .double s1])), (x2, .inr (0, [.int w2, .int z2, .double (FP.dadd l2 (goev z2 l2 l1)), .double (mixv l2 g2 (goev z2 l2 l1) g1), .double (mixv l2 a2 (goev z2 l2 l1) a1), .double (mixv l2 s2 (goev z2 l2 l1) s1)]))] H := hP
    have hD : va_D A [(x1, .inr (0, [.int w1, .int z1, .double (FP.dsub l1 (goev z2 l2 l1)), .double g1, .double a1, .double s1])), (x2, .inr (0, [.int w2, .int z2, .double (FP.dadd l2 (goev z2 l2 l1)), .double (mixv l2 g2 (goev z2 l2 l1) g1), .double (mixv l2 a2 (goev z2 l2 l1) a1), .double (mixv l2 s2 (goev z2 l2 l1) s1)]))] := hD
    refine lv_dload hx hb dX1_passBetween_73 (lv_at hl 0 rfl) ?_
    exact W.dret hx hb hr (fun t ht hW => ⟨⟨_, (), rfl, rfl, by rw [ht]; exact hP, va_K.moved hW.alike hK, hD⟩, hS.F ht⟩) hS.2.2 dX1_passBetween_75
  · refine lv_dload_n hx hb dX1_passBetween_32 rfl (lv_at hl 1 rfl) ?_
    refine lv_goto (tgt := 38) hx hb dX1_passBetween_33 (by decide) ?_
    refine kd_eq (show (FP.dsub (FP.dmul 4606281698874543309 (FP.i2d z2)) l2) = goev z2 l2 l1 from by unfold goev lesv; rw [if_pos c28]) ?_
    refine lv_dstore (lv' := [(6, .double (goev z2 l2 l1)), (4, .double (FP.dmul 4602678819172646912 l1)), (2, .double (FP.dsub (FP.dmul 4606281698874543309 (FP.i2d z2)) l2)), (0, .ref x1), (1, .ref x2)]) hx hb dX1_passBetween_38 hl (by decide) rfl (fun ls hl => ?_)
    refine lv_dload hx hb dX1_passBetween_40 (lv_at hl 0 rfl) ?_
    refine kd_0 hx hb dX1_passBetween_42 ?_
    refine kd_gt (tgt := 49) hx hb dX1_passBetween_43 dX1_passBetween_44 (by decide) q5 (fun c43 => ?_) (fun c43 => absurd hg c43)
    refine lv_aload_n hx hb dX1_passBetween_49 rfl (lv_at hl 4 rfl) ?_
    refine lv_dload hx hb dX1_passBetween_50 (lv_at hl 0 rfl) ?_
    refine lv_aload_n hx hb dX1_passBetween_52 rfl (lv_at hl 3 rfl) ?_
    refine va_get (D := D) (ci := 0) (v := .double g1) (C := RX0) (T := TX0) (N := 6) hx hb hts (by decide +kernel) hown hK hP (0) rfl rfl 3 (by decide) (hts (.fieldLink RX1 66 "VinegarLoft$Barrel" "age" "D") (by decide +kernel)) (fun _ h9 => h9) rfl dX1_passBetween_53 ?_
    refine lv_aload_n hx hb dX1_passBetween_56 rfl (lv_at hl 3 rfl) ?_
    refine va_get (D := D) (ci := 0) (v := .double a1) (C := RX0) (T := TX0) (N := 6) hx hb hts (by decide +kernel) hown hK hP (0) rfl rfl 4 (by decide) (hts (.fieldLink RX1 69 "VinegarLoft$Barrel" "acid" "D") (by decide +kernel)) (fun _ h9 => h9) rfl dX1_passBetween_57 ?_
    refine lv_aload_n hx hb dX1_passBetween_60 rfl (lv_at hl 3 rfl) ?_
    refine va_get (D := D) (ci := 0) (v := .double s1) (C := RX0) (T := TX0) (N := 6) hx hb hts (by decide +kernel) hown hK hP (0) rfl rfl 5 (by decide) (hts (.fieldLink RX1 72 "VinegarLoft$Barrel" "sugar" "D") (by decide +kernel)) (fun _ h9 => h9) rfl dX1_passBetween_61 ?_
    refine ko_v (k := 1) (va_runV (As := [.double (goev z2 l2 l1), .double g1, .double a1, .double s1]) (rest := []) ⟨hx, hb, hml, hown, hts⟩ (metX0_mixIn l D H.size x2 w2 z2 l2 g2 a2 s2 (goev z2 l2 l1) g1 a1 s1 m1 m2 m3) (cwV 4 hts gX1_passBetween_X0_mixIn rfl rfl rfl (by decide +kernel) ⟨Nat.le_of_ble_eq_true rfl, Nat.le_of_ble_eq_true rfl⟩) (pmV 0 0 RX0 TX0 6 rfl rfl (vj_oP (k := 1) rfl hP) (hK.sub [] rfl) (vj_oD (k := 1) rfl hD)) rfl rfl hl.1 rfl (lv_room (Nat.le_of_ble_eq_true rfl)) dX1_passBetween_64 ⟨Nat.le_of_ble_eq_true rfl, Nat.le_of_ble_eq_true rfl⟩) rfl hP hD hS hA (fun H locs hP hD hS => ?_)
    have hP : va_P D vwCl [(x1, .inr (0, [.int w1, .int z1, .double l1, .double g1, .double a1, .double s1])), (x2, .inr (0, [.int w2, .int z2, .double (FP.dadd l2 (goev z2 l2 l1)), .double (mixv l2 g2 (goev z2 l2 l1) g1), .double (mixv l2 a2 (goev z2 l2 l1) a1), .double (mixv l2 s2 (goev z2 l2 l1) s1)]))] H := hP
    have hD : va_D A [(x1, .inr (0, [.int w1, .int z1, .double l1, .double g1, .double a1, .double s1])), (x2, .inr (0, [.int w2, .int z2, .double (FP.dadd l2 (goev z2 l2 l1)), .double (mixv l2 g2 (goev z2 l2 l1) g1), .double (mixv l2 a2 (goev z2 l2 l1) a1), .double (mixv l2 s2 (goev z2 l2 l1) s1)]))] := hD
    refine lv_aload_n hx hb dX1_passBetween_67 rfl (lv_at hl 3 rfl) ?_
    refine lv_dload hx hb dX1_passBetween_68 (lv_at hl 0 rfl) ?_
    refine ko_v (k := 0) (va_runV (As := [.double (goev z2 l2 l1)]) (rest := []) ⟨hx, hb, hml, hown, hts⟩ (metX0_takeOut l D H.size x1 w1 z1 l1 g1 a1 s1 (goev z2 l2 l1) m4 (gt_ne m5)) (cwV 1 hts gX1_passBetween_X0_takeOut rfl rfl rfl (by decide +kernel) ⟨Nat.le_of_ble_eq_true rfl, Nat.le_of_ble_eq_true rfl⟩) (pmV 0 0 RX0 TX0 6 rfl rfl (vj_oP (k := 0) rfl hP) (hK.sub [] rfl) (vj_oD (k := 0) rfl hD)) rfl rfl hl.1 rfl (lv_room (Nat.le_of_ble_eq_true rfl)) dX1_passBetween_70 ⟨Nat.le_of_ble_eq_true rfl, Nat.le_of_ble_eq_true rfl⟩) rfl hP hD hS hA (fun H locs hP hD hS => ?_)
    have ek : tkE w1 z1 l1 g1 a1 s1 (goev z2 l2 l1) = EB w1 z1 (FP.dsub l1 (goev z2 l2 l1)) g1 a1 s1 := by unfold tkE; rw [if_pos m5]
    rw [ek] at hP hD
    have hP : va_P D vwCl [(x1, .inr (0, [.int w1, .int z1, .double (FP.dsub l1 (goev z2 l2 l1)), .double g1, .double a1, .double s1])), (x2, .inr (0, [.int w2, .int z2, .double (FP.dadd l2 (goev z2 l2 l1)), .double (mixv l2 g2 (goev z2 l2 l1) g1), .double (mixv l2 a2 (goev z2 l2 l1) a1), .double (mixv l2 s2 (goev z2 l2 l1) s1)]))] H := hP
    have hD : va_D A [(x1, .inr (0, [.int w1, .int z1, .double (FP.dsub l1 (goev z2 l2 l1)), .double g1, .double a1, .double s1])), (x2, .inr (0, [.int w2, .int z2, .double (FP.dadd l2 (goev z2 l2 l1)), .double (mixv l2 g2 (goev z2 l2 l1) g1), .double (mixv l2 a2 (goev z2 l2 l1) a1), .double (mixv l2 s2 (goev z2 l2 l1) s1)]))] := hD
    refine lv_dload hx hb dX1_passBetween_73 (lv_at hl 0 rfl) ?_
    exact W.dret hx hb hr (fun t ht hW => ⟨⟨_, (), rfl, rfl, by rw [ht]; exact hP, va_K.moved hW.alike hK, hD⟩, hS.F ht⟩) hS.2.2 dX1_passBetween_75
set_option maxHeartbeats 4000000 in
set_option maxRecDepth 100000 in
/-- .. where nothing goes -/
theorem metX1_passBetween_n (l : Launch) (D : va_G) (sz : Nat) (x1 x2 : Nat) (w1 z1 : Int32) (l1 g1 a1 s1 : UInt64) (w2 z2 : Int32) (l2 g2 a2 s2 : UInt64) (hp : paok z2 l1 g1 a1 s1 l2 g2 a2 s2) (hg : FP.dcmp (goev z2 l2 l1) 0 ≠ some .gt) : Met l yX1_passBetween wsX1_passBetween { frames := 2, cells := 0, slots := 0, locals := 57 } (Pm D [] [.ref x1, .ref x2] ([(x1, .inr (0, [.int w1, .int z1, .double l1, .double g1, .double a1, .double s1])), (x2, .inr (0, [.int w2, .int z2, .double l2, .double g2, .double a2, .double s2]))]) sz) (va_Qd (fun (r : UInt64) (_ : Unit) => r = 0) (Bm D [] (va_A ([(x1, .inr (0, [.int w1, .int z1, .double l1, .double g1, .double a1, .double s1])), (x2, .inr (0, [.int w2, .int z2, .double l2, .double g2, .double a2, .double s2]))]) sz) ([(x1, .inr (0, [.int w1, .int z1, .double l1, .double g1, .double a1, .double s1])), (x2, .inr (0, [.int w2, .int z2, .double l2, .double g2, .double a2, .double s2]))])) (va_A ([(x1, .inr (0, [.int w1, .int z1, .double l1, .double g1, .double a1, .double s1])), (x2, .inr (0, [.int w2, .int z2, .double l2, .double g2, .double a2, .double s2]))]) sz)) 0 0 (va_A ([(x1, .inr (0, [.int w1, .int z1, .double l1, .double g1, .double a1, .double s1])), (x2, .inr (0, [.int w2, .int z2, .double l2, .double g2, .double a2, .double s2]))]) sz) := by
  refine Met.ofW (cc := cX1_passBetween) (maxL := 8) (ret := (some .double)) (by decide) rfl ?_
  intro p e s m args below meth c s₁ B hml hv
  obtain ⟨rfl, hsz, hP, hK, hD0⟩ := hv
  have hx := B.exec
  have hb := B.bytes
  have hr := B.returns
  have hts := atoms_spec (ws := wsX1_passBetween) B.pre
  have hown : s.vm.findClass RX1 = some m.cls := findClass_of_methodNamed B.named
  have hlocks := B.notSynchronized
  subst hsz
  have hD := hD0.self (sz := s.heap.size)
  generalize hAe : va_A ([(x1, .inr (0, [.int w1, .int z1, .double l1, .double g1, .double a1, .double s1])), (x2, .inr (0, [.int w2, .int z2, .double l2, .double g2, .double a2, .double s2]))]) s.heap.size = A at hD ⊢
  have hA : ∀ q : Nat, s.heap.size ≤ q → A q := fun q h => by rw [← hAe]; exact Or.inr h
  refine kW_H (fun H hH => ?_)
  have hP : va_P D vwCl ([(x1, .inr (0, [.int w1, .int z1, .double l1, .double g1, .double a1, .double s1])), (x2, .inr (0, [.int w2, .int z2, .double l2, .double g2, .double a2, .double s2]))]) H := by rw [hH]; exact hP
  have hS : va_S A s.heap H [] := by rw [hH]; exact va_S.rf
  have hl := lv_entry ([.ref x1, .ref x2]) (n := 8) (Nat.le_of_ble_eq_true rfl)
  rw [lg_entry_eq]
  generalize (lg_sl ([.ref x1, .ref x2]) ++ List.replicate (8 - (lg_sl ([.ref x1, .ref x2])).length) Slot.unset).toArray = ls at hl ⊢
  have hl : lv_has ls 8 [(0, .ref x1), (1, .ref x2)] := hl
  obtain ⟨q1, q2, q3, q4, q5, q6⟩ := hp
  refine lv_ldc2d hx hb hown (hts (.constantDouble RX1 62 4606281698874543309) (by decide +kernel)) dX1_passBetween_0 ?_
  refine lv_aload_n hx hb dX1_passBetween_3 rfl (lv_at hl 1 rfl) ?_
  refine va_get (D := D) (ci := 0) (v := .int z2) (C := RX0) (T := TX0) (N := 6) hx hb hts (by decide +kernel) hown hK hP (1) rfl rfl 1 (by decide) (hts (.fieldLink RX1 36 "VinegarLoft$Barrel" "size" "I") (by decide +kernel)) (fun _ h9 => h9) rfl dX1_passBetween_4 ?_
  refine lv_i2d hx hb dX1_passBetween_7 ?_
  refine lv_dmul hx hb dX1_passBetween_8 q1 ?_
  refine lv_aload_n hx hb dX1_passBetween_9 rfl (lv_at hl 1 rfl) ?_
  refine va_get (D := D) (ci := 0) (v := .double l2) (C := RX0) (T := TX0) (N := 6) hx hb hts (by decide +kernel) hown hK hP (1) rfl rfl 2 (by decide) (hts (.fieldLink RX1 49 "VinegarLoft$Barrel" "litres" "D") (by decide +kernel)) (fun _ h9 => h9) rfl dX1_passBetween_10 ?_
  refine lv_dsub hx hb dX1_passBetween_13 q2 ?_
  refine lv_dstore_n (lv' := [(2, .double (FP.dsub (FP.dmul 4606281698874543309 (FP.i2d z2)) l2)), (0, .ref x1), (1, .ref x2)]) hx hb dX1_passBetween_14 rfl hl (by decide) rfl (fun ls hl => ?_)
  refine lv_ldc2d hx hb hown (hts (.constantDouble RX1 64 4602678819172646912) (by decide +kernel)) dX1_passBetween_15 ?_
  refine lv_aload_n hx hb dX1_passBetween_18 rfl (lv_at hl 1 rfl) ?_
  refine va_get (D := D) (ci := 0) (v := .double l1) (C := RX0) (T := TX0) (N := 6) hx hb hts (by decide +kernel) hown hK hP (0) rfl rfl 2 (by decide) (hts (.fieldLink RX1 49 "VinegarLoft$Barrel" "litres" "D") (by decide +kernel)) (fun _ h9 => h9) rfl dX1_passBetween_19 ?_
  refine lv_dmul hx hb dX1_passBetween_22 q3 ?_
  refine lv_dstore (lv' := [(4, .double (FP.dmul 4602678819172646912 l1)), (2, .double (FP.dsub (FP.dmul 4606281698874543309 (FP.i2d z2)) l2)), (0, .ref x1), (1, .ref x2)]) hx hb dX1_passBetween_23 hl (by decide) rfl (fun ls hl => ?_)
  refine lv_dload_n hx hb dX1_passBetween_25 rfl (lv_at hl 1 rfl) ?_
  refine lv_dload hx hb dX1_passBetween_26 (lv_at hl 0 rfl) ?_
  refine kd_ge (tgt := 36) hx hb dX1_passBetween_28 dX1_passBetween_29 (by decide) q4 (fun c28 => ?_) (fun c28 => ?_)
  · refine lv_dload hx hb dX1_passBetween_36 (lv_at hl 0 rfl) ?_
    refine kd_eq (show (FP.dmul 4602678819172646912 l1) = goev z2 l2 l1 from by unfold goev lesv; rw [if_neg c28]) ?_
    refine lv_dstore (lv' := [(6, .double (goev z2 l2 l1)), (4, .double (FP.dmul 4602678819172646912 l1)), (2, .double (FP.dsub (FP.dmul 4606281698874543309 (FP.i2d z2)) l2)), (0, .ref x1), (1, .ref x2)]) hx hb dX1_passBetween_38 hl (by decide) rfl (fun ls hl => ?_)
    refine lv_dload hx hb dX1_passBetween_40 (lv_at hl 0 rfl) ?_
    refine kd_0 hx hb dX1_passBetween_42 ?_
    refine kd_gt (tgt := 49) hx hb dX1_passBetween_43 dX1_passBetween_44 (by decide) q5 (fun c43 => absurd c43 hg) (fun c43 => ?_)
    refine kd_0 hx hb dX1_passBetween_47 ?_
    exact W.dret hx hb hr (fun t ht hW => ⟨⟨_, (), rfl, rfl, by rw [ht]; exact hP, va_K.moved hW.alike hK, hD⟩, hS.F ht⟩) hS.2.2 dX1_passBetween_48
  · refine lv_dload_n hx hb dX1_passBetween_32 rfl (lv_at hl 1 rfl) ?_
    refine lv_goto (tgt := 38) hx hb dX1_passBetween_33 (by decide) ?_
    refine kd_eq (show (FP.dsub (FP.dmul 4606281698874543309 (FP.i2d z2)) l2) = goev z2 l2 l1 from by unfold goev lesv; rw [if_pos c28]) ?_
    refine lv_dstore (lv' := [(6, .double (goev z2 l2 l1)), (4, .double (FP.dmul 4602678819172646912 l1)), (2, .double (FP.dsub (FP.dmul 4606281698874543309 (FP.i2d z2)) l2)), (0, .ref x1), (1, .ref x2)]) hx hb dX1_passBetween_38 hl (by decide) rfl (fun ls hl => ?_)
    refine lv_dload hx hb dX1_passBetween_40 (lv_at hl 0 rfl) ?_
    refine kd_0 hx hb dX1_passBetween_42 ?_
    refine kd_gt (tgt := 49) hx hb dX1_passBetween_43 dX1_passBetween_44 (by decide) q5 (fun c43 => absurd c43 hg) (fun c43 => ?_)
    refine kd_0 hx hb dX1_passBetween_47 ?_
    exact W.dret hx hb hr (fun t ht hW => ⟨⟨_, (), rfl, rfl, by rw [ht]; exact hP, va_K.moved hW.alike hK, hD⟩, hS.F ht⟩) hS.2.2 dX1_passBetween_48
end
section
/-! VinegarLoft$Row: its methods, second half (laid by wip/p23/prog/x1b.py) -/
section ROWX
variable {r la : Nat} {bs : Nat → Nat} {cA : ClassId} {n wm df : Int32} {q : UInt64} {wd zs : Nat → Int32} {h : Nat → UInt64}
theorem rowW_tk {b : Nat} (hb : b < 8) (less : UInt64) : (rowW r la bs cA n wm df q wd zs h).set (2 + b) (bs b, tkE (wd b) (zs b) (h b) (h (8 + b)) (h (16 + b)) (h (24 + b)) less) = rowW r la bs cA n wm df q wd zs (tkH h b less) := by
  unfold tkE tkH
  split
  · exact rowW_sh hb _ _ _ _
  · exact rowW_sh hb _ _ _ _
/-- barrel k + 1 got from barrel k -/
theorem rowW_pa {k : Nat} (hk : k + 1 < 8) (hg : FP.dcmp (paG zs h k) 0 = some .gt) : ((rowW r la bs cA n wm df q wd zs h).set (2 + k) (bs k, EB (wd k) (zs k) (FP.dsub (h k) (paG zs h k)) (h (8 + k)) (h (16 + k)) (h (24 + k)))).set (2 + (k + 1)) (bs (k + 1), EB (wd (k + 1)) (zs (k + 1)) (FP.dadd (h (k + 1)) (paG zs h k)) (mixv (h (k + 1)) (h (8 + (k + 1))) (paG zs h k) (h (8 + k))) (mixv (h (k + 1)) (h (16 + (k + 1))) (paG zs h k) (h (16 + k))) (mixv (h (k + 1)) (h (24 + (k + 1))) (paG zs h k) (h (24 + k)))) = rowW r la bs cA n wm df q wd zs (paH zs h k) := by
  rw [List.set_comm _ _ (by omega), rowW_sh hk]
  unfold paH
  rw [if_pos hg]
  refine Eq.trans ?_ (rowW_sh (show k < 8 by omega) _ _ _ _)
  rfl
theorem rowW_id {i : Nat} (hi : i < 8) : (rowW r la bs cA n wm df q wd zs h).set (2 + i) (bs i, Bk wd zs h i) = rowW r la bs cA n wm df q wd zs h :=
  lt8 (P := fun i => (rowW r la bs cA n wm df q wd zs h).set (2 + i) (bs i, Bk wd zs h i) = rowW r la bs cA n wm df q wd zs h) rfl rfl rfl rfl rfl rfl rfl rfl hi
/-- two rows -/
theorem rowT_1 {w2 : va_W} {i : Nat} (hi : i < 8) : (rowW r la bs cA n wm df q wd zs h ++ w2)[2 + i]? = some (bs i, Bk wd zs h i) := vj_inA (rowW_b hi)
theorem rowT_2 {w1 : va_W} (h1 : w1.length = 10) {i : Nat} (hi : i < 8) : (w1 ++ rowW r la bs cA n wm df q wd zs h)[10 + (2 + i)]? = some (bs i, Bk wd zs h i) := by
  rw [List.getElem?_append_right (by omega), show 10 + (2 + i) - w1.length = 2 + i by omega]
  exact rowW_b hi
end ROWX
theorem rowT_cp {r la : Nat} {bs : Nat → Nat} {cA : ClassId} {n wm df : Int32} {q : UInt64} {wd zs : Nat → Int32} {h : Nat → UInt64} {r2 la2 : Nat} {bs2 : Nat → Nat} {n2 wm2 df2 : Int32} {q2 : UInt64} {wd2 zs2 : Nat → Int32} {h2 : Nat → UInt64} {i : Nat} (hi : i < 8) :
    ((rowW r la bs cA n wm df q wd zs h ++ rowW r2 la2 bs2 cA n2 wm2 df2 q2 wd2 zs2 h2).set (2 + i) (bs i, Bk wd2 zs2 h2 i)).set (10 + (2 + i)) (bs2 i, Bk wd2 zs2 h2 i) = rowW r la bs cA n wm df q (va_up wd i (wd2 i)) (va_up zs i (zs2 i)) (hset h i (h2 i) (h2 (8 + i)) (h2 (16 + i)) (h2 (24 + i))) ++ rowW r2 la2 bs2 cA n2 wm2 df2 q2 wd2 zs2 h2 := by
  have hl : ∀ (w : Nat → Int32) (z : Nat → Int32) (g : Nat → UInt64), (rowW r la bs cA n wm df q w z g).length = 10 := fun _ _ _ => rfl
  rw [List.set_append_left _ _ (by rw [hl]; omega)]
  rw [List.set_append_right _ _ (by rw [List.length_set, hl]; omega), List.length_set, hl, show 10 + (2 + i) - 10 = 2 + i by omega, rowW_id hi]
  congr 1
  refine Eq.trans ?_ (rowW_sh (wd := va_up wd i (wd2 i)) (zs := va_up zs i (zs2 i)) hi (h2 i) (h2 (8 + i)) (h2 (16 + i)) (h2 (24 + i)))
  rw [va_up_self, va_up_self, ← rowW_sw hi, ← rowW_sz hi]
  exact lt8 (P := fun i => (rowW r la bs cA n wm df q wd zs h).set (2 + i) (bs i, Bk wd2 zs2 h2 i) = (((rowW r la bs cA n wm df q wd zs h).set (2 + i) (bs i, EB (wd i) (zs2 i) (h i) (h (8 + i)) (h (16 + i)) (h (24 + i)))).set (2 + i) (bs i, EB (wd2 i) (va_up zs i (zs2 i) i) (h i) (h (8 + i)) (h (16 + i)) (h (24 + i)))).set (2 + i) (bs i, EB (wd2 i) (zs2 i) (h2 i) (h2 (8 + i)) (h2 (16 + i)) (h2 (24 + i)))) rfl rfl rfl rfl rfl rfl rfl rfl hi
set_option maxHeartbeats 4000000 in
set_option maxRecDepth 100000 in
/-- takeBottles(bottles), from the barrel b of the year -/
theorem metX1_takeBottles (l : Launch) (D : va_G) (sz : Nat) (r la : Nat) (bs : Nat → Nat) (cA : ClassId) (n : Nat) (hn : n ≤ 8) (wm : Int32) (q : UInt64) (wd zs : Nat → Int32) (h : Nat → UInt64) (b : Nat) (hbn : b < n) (x : Int32) (t0 : vf_n64 (botv x)) (t1 : vf_n64 (FP.dsub q (botv x))) (t2 : vf_n64 (FP.dsub (h b) (botv x))) (t3 : FP.dcmp (FP.dsub (h b) (botv x)) 0 ≠ none) : Met l yX1_takeBottles wsX1_takeBottles { frames := 2, cells := 0, slots := 0, locals := 42 } (Pm D [(cA, .object "VinegarLoft$Barrel")] [.ref r, .int x] (rowW r la bs cA (nI n) wm (nI b) q wd zs h) sz) (va_Qv (fun (_ : Unit) => True) (Bm D [(cA, .object "VinegarLoft$Barrel")] (va_A (rowW r la bs cA (nI n) wm (nI b) q wd zs h) sz) (rowW r la bs cA (nI n) wm (nI b) (FP.dsub q (botv x)) wd zs (tkH h b (botv x)))) (va_A (rowW r la bs cA (nI n) wm (nI b) q wd zs h) sz)) 0 0 (va_A (rowW r la bs cA (nI n) wm (nI b) q wd zs h) sz) := by
  refine Met.ofW (cc := cX1_takeBottles) (maxL := 4) (ret := none) (by decide) rfl ?_
  intro p e s m args below meth c s₁ B hml hv
  obtain ⟨rfl, hsz, hP, hK, hD0⟩ := hv
  have hx := B.exec
  have hb := B.bytes
  have hr := B.returns
  have hts := atoms_spec (ws := wsX1_takeBottles) B.pre
  have hown : s.vm.findClass RX1 = some m.cls := findClass_of_methodNamed B.named
  have hlocks := B.notSynchronized
  subst hsz
  have hD := hD0.self (sz := s.heap.size)
  generalize hAe : va_A (rowW r la bs cA (nI n) wm (nI b) q wd zs h) s.heap.size = A at hD ⊢
  have hA : ∀ q : Nat, s.heap.size ≤ q → A q := fun q h => by rw [← hAe]; exact Or.inr h
  refine kW_H (fun H hH => ?_)
  have hP : va_P D vwCl (rowW r la bs cA (nI n) wm (nI b) q wd zs h) H := by rw [hH]; exact hP
  have hS : va_S A s.heap H [] := by rw [hH]; exact va_S.rf
  have hl := lv_entry ([.ref r, .int x]) (n := 4) (Nat.le_of_ble_eq_true rfl)
  rw [lg_entry_eq]
  generalize (lg_sl ([.ref r, .int x]) ++ List.replicate (4 - (lg_sl ([.ref r, .int x])).length) Slot.unset).toArray = ls at hl ⊢
  have hl : lv_has ls 4 [(0, .ref r), (1, .int x)] := hl
  refine lv_aload_n hx hb dX1_takeBottles_0 rfl (lv_at hl 0 rfl) ?_
  refine va_get (D := D) (ci := 1) (v := .int (nI b)) (C := RX1) (T := TX1) (N := 5) hx hb hts (by decide +kernel) hown hK hP (0) rfl rfl 3 (by decide) (hts (.fieldLink RX1 25 "VinegarLoft$Row" "drawnFrom" "I") (by decide +kernel)) (fun _ h9 => h9) rfl dX1_takeBottles_1 ?_
  refine lv_iconst (v := (-1)) hx hb dX1_takeBottles_4 (by decide) ?_
  refine lv_icmp_ne (tgt := 9) hx hb dX1_takeBottles_5 (by decide) (fun c5 => ?_) (fun c5 => absurd c5 (nI_m1 (show b < 8 by omega)))
  refine lv_iload_n hx hb dX1_takeBottles_9 rfl (lv_at hl 1 rfl) ?_
  refine lv_i2d hx hb dX1_takeBottles_10 ?_
  refine lv_ldc2d hx hb hown (hts (.constantDouble RX1 104 4591870180066957722) (by decide +kernel)) dX1_takeBottles_11 ?_
  refine lv_dmul hx hb dX1_takeBottles_14 t0 ?_
  refine lv_dstore_n (lv' := [(2, .double (botv x)), (0, .ref r), (1, .int x)]) hx hb dX1_takeBottles_15 rfl hl (by decide) rfl (fun ls hl => ?_)
  refine lv_aload_n hx hb dX1_takeBottles_16 rfl (lv_at hl 1 rfl) ?_
  refine lv_aload_n hx hb dX1_takeBottles_17 rfl (lv_at hl 1 rfl) ?_
  refine va_get (D := D) (ci := 1) (v := .double q) (C := RX1) (T := TX1) (N := 5) hx hb hts (by decide +kernel) hown hK hP (0) rfl rfl 4 (by decide) (hts (.fieldLink RX1 28 "VinegarLoft$Row" "mayBeDrawn" "D") (by decide +kernel)) (fun _ h9 => h9) rfl dX1_takeBottles_18 ?_
  refine lv_dload_n hx hb dX1_takeBottles_21 rfl (lv_at hl 0 rfl) ?_
  refine lv_dsub hx hb dX1_takeBottles_22 t1 ?_
  refine va_put (D := D) (ci := 1) (v := .double (FP.dsub q (botv x))) (ty := .double) (C := RX1) (T := TX1) (N := 5) hx hb hts (by decide +kernel) tyX1 tyX1_ok nmX1 hown hK hP hD hS (0) rfl rfl 4 (by decide) (hts (.fieldLink RX1 28 "VinegarLoft$Row" "mayBeDrawn" "D") (by decide +kernel)) (fun _ h9 => h9) rfl (by decide +kernel) rfl rfl (Nat.le_of_ble_eq_true rfl) dX1_takeBottles_23 (fun H locs hP hD hS => ?_)
  have hP : va_P D vwCl (rowW r la bs cA (nI n) wm (nI b) (FP.dsub q (botv x)) wd zs h) H := hP
  have hD : va_D A (rowW r la bs cA (nI n) wm (nI b) (FP.dsub q (botv x)) wd zs h) := hD
  refine lv_aload_n hx hb dX1_takeBottles_26 rfl (lv_at hl 1 rfl) ?_
  refine va_get (D := D) (ci := 1) (v := .ref la) (C := RX1) (T := TX1) (N := 5) hx hb hts (by decide +kernel) hown hK hP (0) rfl rfl 0 (by decide) (hts (.fieldLink RX1 11 "VinegarLoft$Row" "line" "[LVinegarLoft$Barrel;") (by decide +kernel)) (fun _ h9 => h9) rfl dX1_takeBottles_27 ?_
  refine lv_aload_n hx hb dX1_takeBottles_30 rfl (lv_at hl 1 rfl) ?_
  refine va_get (D := D) (ci := 1) (v := .int (nI b)) (C := RX1) (T := TX1) (N := 5) hx hb hts (by decide +kernel) hown hK hP (0) rfl rfl 3 (by decide) (hts (.fieldLink RX1 25 "VinegarLoft$Row" "drawnFrom" "I") (by decide +kernel)) (fun _ h9 => h9) rfl dX1_takeBottles_31 ?_
  refine kx_ald hx hb hK hP (1) 0 rfl rfl (j := b) rfl (by omega) dX1_takeBottles_34 ?_
  refine lv_dload_n hx hb dX1_takeBottles_35 rfl (lv_at hl 0 rfl) ?_
  refine ko_v (va_runV (As := [.double (botv x)]) (rest := []) ⟨hx, hb, hml, hown, hts⟩ (metX0_takeOut l D H.size (bs b) (wd b) (zs b) (h b) (h (8 + b)) (h (16 + b)) (h (24 + b)) (botv x) t2 t3) (cwV 1 hts gX1_takeBottles_X0_takeOut rfl rfl rfl (by decide +kernel) ⟨Nat.le_of_ble_eq_true rfl, Nat.le_of_ble_eq_true rfl⟩) (pmV 0 0 RX0 TX0 6 rfl rfl (vj_oP (rowW_b (show b < 8 by omega)) hP) (hK.sub [] rfl) (vj_oD (rowW_b (show b < 8 by omega)) hD)) rfl rfl hl.1 rfl (lv_room (Nat.le_of_ble_eq_true rfl)) dX1_takeBottles_36 ⟨Nat.le_of_ble_eq_true rfl, Nat.le_of_ble_eq_true rfl⟩) (rowW_b (show b < 8 by omega)) hP hD hS hA (fun H locs hP hD hS => ?_)
  have hP : va_P D vwCl (rowW r la bs cA (nI n) wm (nI b) (FP.dsub q (botv x)) wd zs (tkH h b (botv x))) H := by rw [← rowW_tk (show b < 8 by omega)]; exact hP
  have hD : va_D A (rowW r la bs cA (nI n) wm (nI b) (FP.dsub q (botv x)) wd zs (tkH h b (botv x))) := by rw [← rowW_tk (show b < 8 by omega)]; exact hD
  exact W.vret hx hb hr (fun t ht hW => ⟨⟨(), rfl, trivial, by rw [ht]; exact hP, va_K.moved hW.alike hK, hD⟩, hS.F ht⟩) hS.2.2 dX1_takeBottles_39
theorem dadd_0 {a : UInt64} (h : NN a) : FP.dadd a 0 = a := by
  refine FP.Core.dadd_zero h.ne (fun e => ?_)
  have h1 := h.lt63
  rw [e] at h1
  exact absurd h1 (by decide +kernel)
set_option maxHeartbeats 4000000 in
set_option maxRecDepth 100000 in
/-- passDown() -/
theorem metX1_passDown (l : Launch) (D : va_G) (sz : Nat) (r la : Nat) (bs : Nat → Nat) (cA : ClassId) (n : Nat) (hn : n ≤ 8) (wm df : Int32) (q : UInt64) (wd zs : Nat → Int32) (h : Nat → UInt64) (ht : took zs (n - 1) h 0) : Met l yX1_passDown wsX1_passDown { frames := 3, cells := 0, slots := 0, locals := 84 } (Pm D [(cA, .object "VinegarLoft$Barrel")] [.ref r] (rowW r la bs cA (nI n) wm df q wd zs h) sz) (va_Qd (fun (r : UInt64) (_ : Unit) => r = toS zs (n - 1) h 0) (Bm D [(cA, .object "VinegarLoft$Barrel")] (va_A (rowW r la bs cA (nI n) wm df q wd zs h) sz) (rowW r la bs cA (nI n) wm df q wd zs (toH zs (n - 1) h))) (va_A (rowW r la bs cA (nI n) wm df q wd zs h) sz)) 0 0 (va_A (rowW r la bs cA (nI n) wm df q wd zs h) sz) := by
  refine Met.ofW (cc := cX1_passDown) (maxL := 4) (ret := (some .double)) (by decide) rfl ?_
  intro p e s m args below meth c s₁ B hml hv
  obtain ⟨rfl, hsz, hP, hK, hD0⟩ := hv
  have hx := B.exec
  have hb := B.bytes
  have hr := B.returns
  have hts := atoms_spec (ws := wsX1_passDown) B.pre
  have hown : s.vm.findClass RX1 = some m.cls := findClass_of_methodNamed B.named
  have hlocks := B.notSynchronized
  subst hsz
  have hD := hD0.self (sz := s.heap.size)
  generalize hAe : va_A (rowW r la bs cA (nI n) wm df q wd zs h) s.heap.size = A at hD ⊢
  have hA : ∀ q : Nat, s.heap.size ≤ q → A q := fun q h => by rw [← hAe]; exact Or.inr h
  refine kW_H (fun H hH => ?_)
  have hP : va_P D vwCl (rowW r la bs cA (nI n) wm df q wd zs h) H := by rw [hH]; exact hP
  have hS : va_S A s.heap H [] := by rw [hH]; exact va_S.rf
  have hl := lv_entry ([.ref r]) (n := 4) (Nat.le_of_ble_eq_true rfl)
  rw [lg_entry_eq]
  generalize (lg_sl ([.ref r]) ++ List.replicate (4 - (lg_sl ([.ref r])).length) Slot.unset).toArray = ls at hl ⊢
  have hl : lv_has ls 4 [(0, .ref r)] := hl
  refine kd_0 hx hb dX1_passDown_0 ?_
  refine lv_dstore_n (lv' := [(1, .double 0), (0, .ref r)]) hx hb dX1_passDown_1 rfl hl (by decide) rfl (fun ls hl => ?_)
  refine lv_aload_n hx hb dX1_passDown_2 rfl (lv_at hl 1 rfl) ?_
  refine va_get (D := D) (ci := 1) (v := .int (nI n)) (C := RX1) (T := TX1) (N := 5) hx hb hts (by decide +kernel) hown hK hP (0) rfl rfl 1 (by decide) (hts (.fieldLink RX1 18 "VinegarLoft$Row" "count" "I") (by decide +kernel)) (fun _ h9 => h9) rfl dX1_passDown_3 ?_
  refine lv_iconst (v := 1) hx hb dX1_passDown_6 (by decide) ?_
  refine lv_isub hx hb dX1_passDown_7 ?_
  refine lv_istore_n (lv' := [(3, .int ((nI n) - 1)), (1, .double 0), (0, .ref r)]) hx hb dX1_passDown_8 rfl hl (by decide) rfl (fun ls hl => ?_)
  by_cases h0 : n = 0
  · subst h0
    have hl : lv_has ls 4 [(3, .int (-1)), (1, .double 0), (0, .ref r)] := hl
    refine lv_iload_n hx hb dX1_passDown_9 rfl (lv_at hl 0 rfl) ?_
    refine lv_if_le (tgt := 39) hx hb dX1_passDown_10 (by decide) (fun c10 => ?_) (fun c10 => absurd (by decide) c10)
    refine lv_dload_n hx hb dX1_passDown_39 rfl (lv_at hl 1 rfl) ?_
    exact W.dret hx hb hr (fun t ht hW => ⟨⟨_, (), rfl, rfl, by rw [ht]; exact hP, va_K.moved hW.alike hK, hD⟩, hS.F ht⟩) hS.2.2 dX1_passDown_40
  have h0 : 0 < n := by omega
  rw [nI_p h0] at hl
  refine kW_dn (n - 1) (fun i H locs ls => ∃ (h' : Nat → UInt64) (s' : UInt64), toH zs i h' = toH zs (n - 1) h ∧ toS zs i h' s' = toS zs (n - 1) h 0 ∧ took zs i h' s' ∧ va_P D vwCl (rowW r la bs cA (nI n) wm df q wd zs (h')) H ∧ va_D A (rowW r la bs cA (nI n) wm df q wd zs (h')) ∧ va_S A s.heap H locs ∧ lv_has ls 4 [(3, .int (nI i)), (1, .double s'), (0, .ref r)]) (fun i H locs ls hi hI ih => ?_) (fun H locs ls hI => ?_) ⟨h, 0, rfl, rfl, ht, hP, hD, hS, lv_sub hl [0, 1, 2] rfl⟩
  · obtain ⟨h', s', e1, e2, e3, hP, hD, hS, hl⟩ := hI
    obtain ⟨⟨ok, hs, hv⟩, e3⟩ := e3
    refine lv_iload_n hx hb dX1_passDown_9 rfl (lv_at hl 0 rfl) ?_
    refine lv_if_le (tgt := 39) hx hb dX1_passDown_10 (by decide) (fun c10 => absurd c10 (nI_nle (by omega) (by omega))) (fun c10 => ?_)
    refine lv_dload_n hx hb dX1_passDown_13 rfl (lv_at hl 1 rfl) ?_
    refine lv_aload_n hx hb dX1_passDown_14 rfl (lv_at hl 2 rfl) ?_
    refine va_get (D := D) (ci := 1) (v := .ref la) (C := RX1) (T := TX1) (N := 5) hx hb hts (by decide +kernel) hown hK hP (0) rfl rfl 0 (by decide) (hts (.fieldLink RX1 11 "VinegarLoft$Row" "line" "[LVinegarLoft$Barrel;") (by decide +kernel)) (fun _ h9 => h9) rfl dX1_passDown_15 ?_
    refine lv_iload_n hx hb dX1_passDown_18 rfl (lv_at hl 0 rfl) ?_
    refine lv_iconst (v := 1) hx hb dX1_passDown_19 (by decide) ?_
    refine lv_isub hx hb dX1_passDown_20 ?_
    refine kx_ald hx hb hK hP (1) 0 rfl rfl (j := i) (nI_pred i) (by omega) dX1_passDown_21 ?_
    refine lv_aload_n hx hb dX1_passDown_22 rfl (lv_at hl 2 rfl) ?_
    refine va_get (D := D) (ci := 1) (v := .ref la) (C := RX1) (T := TX1) (N := 5) hx hb hts (by decide +kernel) hown hK hP (0) rfl rfl 0 (by decide) (hts (.fieldLink RX1 11 "VinegarLoft$Row" "line" "[LVinegarLoft$Barrel;") (by decide +kernel)) (fun _ h9 => h9) rfl dX1_passDown_23 ?_
    refine lv_iload_n hx hb dX1_passDown_26 rfl (lv_at hl 0 rfl) ?_
    refine kx_ald hx hb hK hP (1) 0 rfl rfl (j := i + 1) rfl (by omega) dX1_passDown_27 ?_
    by_cases g : FP.dcmp (paG zs h' i) 0 = some .gt
    · refine kt_d (k1 := 2 + i) (k2 := 2 + (i + 1)) (va_runS (As := [.ref (bs i), .ref (bs (i + 1))]) (rest := [.double s']) ⟨hx, hb, hml, hown, hts⟩ (metX1_passBetween_y l D H.size (bs i) (bs (i + 1)) (wd i) (zs i) ((h') i) ((h') (8 + i)) ((h') (16 + i)) ((h') (24 + i)) (wd (i + 1)) (zs (i + 1)) ((h') (i + 1)) ((h') (8 + (i + 1))) ((h') (16 + (i + 1))) ((h') (24 + (i + 1))) ok g) (va_cwS 2 hts gX1_passDown_X1_passBetween rfl rfl rfl (by decide +kernel) ⟨Nat.le_of_ble_eq_true rfl, Nat.le_of_ble_eq_true rfl⟩) (pmS (vj_tP (k1 := 2 + i) (k2 := 2 + (i + 1)) (rowW_b (show i < 8 by omega)) (rowW_b (show i + 1 < 8 by omega)) hP) (hK.sub [] rfl) (vj_tD (k1 := 2 + i) (k2 := 2 + (i + 1)) (rowW_b (show i < 8 by omega)) (rowW_b (show i + 1 < 8 by omega)) (by omega) hD)) rfl rfl hl.1 rfl (lv_room (Nat.le_of_ble_eq_true rfl)) dX1_passDown_28 ⟨Nat.le_of_ble_eq_true rfl, Nat.le_of_ble_eq_true rfl⟩) (rowW_b (show i < 8 by omega)) (rowW_b (show i + 1 < 8 by omega)) (by omega) hP hD hS hA (fun H locs hP hD hS => ?_)
      have hP : va_P D vwCl (rowW r la bs cA (nI n) wm df q wd zs (paH zs h' i)) H := by rw [← rowW_pa (show i + 1 < 8 by omega) g]; exact hP
      have hD : va_D A (rowW r la bs cA (nI n) wm df q wd zs (paH zs h' i)) := by rw [← rowW_pa (show i + 1 < 8 by omega) g]; exact hD
      have hv : vf_n64 (FP.dadd s' (paG zs h' i)) := hv g
      refine lv_dadd hx hb dX1_passDown_31 hv ?_
      refine kd_eq (show FP.dadd s' (paG zs h' i) = paS zs h' i s' from by unfold paS; rw [if_pos g]) ?_
      refine lv_dstore_n (lv' := [(1, .double (paS zs h' i s')), (3, .int (nI (i + 1))), (0, .ref r)]) hx hb dX1_passDown_32 rfl hl (by decide) rfl (fun ls hl => ?_)
      refine lv_iinc (v := nI i) (lv' := [(3, .int (nI i)), (1, .double (paS zs h' i s')), (0, .ref r)]) hx hb dX1_passDown_33 hl (k := 1) rfl (pk_m1 i) (by decide) rfl (fun ls hl => ?_)
      refine lv_goto (tgt := 9) hx hb dX1_passDown_36 (by decide) ?_
      exact ih H locs ls ⟨_, _, e1, e2, e3, hP, hD, hS, lv_sub hl [0, 1, 2] rfl⟩
    · refine kt_d (k1 := 2 + i) (k2 := 2 + (i + 1)) (va_runS (As := [.ref (bs i), .ref (bs (i + 1))]) (rest := [.double s']) ⟨hx, hb, hml, hown, hts⟩ (metX1_passBetween_n l D H.size (bs i) (bs (i + 1)) (wd i) (zs i) ((h') i) ((h') (8 + i)) ((h') (16 + i)) ((h') (24 + i)) (wd (i + 1)) (zs (i + 1)) ((h') (i + 1)) ((h') (8 + (i + 1))) ((h') (16 + (i + 1))) ((h') (24 + (i + 1))) ok g) (va_cwS 2 hts gX1_passDown_X1_passBetween rfl rfl rfl (by decide +kernel) ⟨Nat.le_of_ble_eq_true rfl, Nat.le_of_ble_eq_true rfl⟩) (pmS (vj_tP (k1 := 2 + i) (k2 := 2 + (i + 1)) (rowW_b (show i < 8 by omega)) (rowW_b (show i + 1 < 8 by omega)) hP) (hK.sub [] rfl) (vj_tD (k1 := 2 + i) (k2 := 2 + (i + 1)) (rowW_b (show i < 8 by omega)) (rowW_b (show i + 1 < 8 by omega)) (by omega) hD)) rfl rfl hl.1 rfl (lv_room (Nat.le_of_ble_eq_true rfl)) dX1_passDown_28 ⟨Nat.le_of_ble_eq_true rfl, Nat.le_of_ble_eq_true rfl⟩) (rowW_b (show i < 8 by omega)) (rowW_b (show i + 1 < 8 by omega)) (by omega) hP hD hS hA (fun H locs hP hD hS => ?_)
      rw [rowW_id (show i < 8 by omega), rowW_id (show i + 1 < 8 by omega)] at hP hD
      have hP : va_P D vwCl (rowW r la bs cA (nI n) wm df q wd zs (paH zs h' i)) H := by unfold paH; rw [if_neg g]; exact hP
      have hD : va_D A (rowW r la bs cA (nI n) wm df q wd zs (paH zs h' i)) := by unfold paH; rw [if_neg g]; exact hD
      have hv : vf_n64 (FP.dadd s' 0) := by rw [dadd_0 hs]; exact hs.n64
      refine lv_dadd hx hb dX1_passDown_31 hv ?_
      refine kd_eq (show FP.dadd s' 0 = paS zs h' i s' from by unfold paS; rw [if_neg g, dadd_0 hs]) ?_
      refine lv_dstore_n (lv' := [(1, .double (paS zs h' i s')), (3, .int (nI (i + 1))), (0, .ref r)]) hx hb dX1_passDown_32 rfl hl (by decide) rfl (fun ls hl => ?_)
      refine lv_iinc (v := nI i) (lv' := [(3, .int (nI i)), (1, .double (paS zs h' i s')), (0, .ref r)]) hx hb dX1_passDown_33 hl (k := 1) rfl (pk_m1 i) (by decide) rfl (fun ls hl => ?_)
      refine lv_goto (tgt := 9) hx hb dX1_passDown_36 (by decide) ?_
      exact ih H locs ls ⟨_, _, e1, e2, e3, hP, hD, hS, lv_sub hl [0, 1, 2] rfl⟩
  · obtain ⟨h', s', e1, e2, e3, hP, hD, hS, hl⟩ := hI
    refine lv_iload_n hx hb dX1_passDown_9 rfl (lv_at hl 0 rfl) ?_
    refine lv_if_le (tgt := 39) hx hb dX1_passDown_10 (by decide) (fun c10 => ?_) (fun c10 => absurd (by decide) c10)
    refine lv_dload_n hx hb dX1_passDown_39 rfl (lv_at hl 1 rfl) ?_
    have hP : va_P D vwCl (rowW r la bs cA (nI n) wm df q wd zs (toH zs (n - 1) h)) H := by rw [← e1]; exact hP
    have hD : va_D A (rowW r la bs cA (nI n) wm df q wd zs (toH zs (n - 1) h)) := by rw [← e1]; exact hD
    exact W.dret hx hb hr (fun t ht hW => ⟨⟨_, (), rfl, e2, by rw [ht]; exact hP, va_K.moved hW.alike hK, hD⟩, hS.F ht⟩) hS.2.2 dX1_passDown_40
set_option maxHeartbeats 4000000 in
set_option maxRecDepth 100000 in
/-- ageAll() -/
theorem metX1_ageAll (l : Launch) (D : va_G) (sz : Nat) (r la : Nat) (bs : Nat → Nat) (cA : ClassId) (n : Nat) (hn : n ≤ 8) (wm df : Int32) (q : UInt64) (wd zs : Nat → Int32) (h : Nat → UInt64) (hdr : drok wm) (hok : agok wd (drv wm) h n) (hN : NNr n (agH wd (drv wm) h n)) (hq : ∀ b, b < n → vf_n64 (FP.dmul 4598175219545276416 ((agH wd (drv wm) h n) b))) : Met l yX1_ageAll wsX1_ageAll { frames := 3, cells := 0, slots := 0, locals := 70 } (Pm D [(cA, .object "VinegarLoft$Barrel")] [.ref r] (rowW r la bs cA (nI n) wm df q wd zs h) sz) (va_Qd (fun (r : UInt64) (_ : Unit) => r = agS wd (drv wm) h n) (Bm D [(cA, .object "VinegarLoft$Barrel")] (va_A (rowW r la bs cA (nI n) wm df q wd zs h) sz) (rowW r la bs cA (nI n) wm (encO (elO (agH wd (drv wm) h n) n)) (quv (agH wd (drv wm) h n) (elO (agH wd (drv wm) h n) n)) wd zs (agH wd (drv wm) h n))) (va_A (rowW r la bs cA (nI n) wm df q wd zs h) sz)) 0 0 (va_A (rowW r la bs cA (nI n) wm df q wd zs h) sz) := by
  refine Met.ofW (cc := cX1_ageAll) (maxL := 6) (ret := (some .double)) (by decide) rfl ?_
  intro p e s m args below meth c s₁ B hml hv
  obtain ⟨rfl, hsz, hP, hK, hD0⟩ := hv
  have hx := B.exec
  have hb := B.bytes
  have hr := B.returns
  have hts := atoms_spec (ws := wsX1_ageAll) B.pre
  have hown : s.vm.findClass RX1 = some m.cls := findClass_of_methodNamed B.named
  have hlocks := B.notSynchronized
  subst hsz
  have hD := hD0.self (sz := s.heap.size)
  generalize hAe : va_A (rowW r la bs cA (nI n) wm df q wd zs h) s.heap.size = A at hD ⊢
  have hA : ∀ q : Nat, s.heap.size ≤ q → A q := fun q h => by rw [← hAe]; exact Or.inr h
  refine kW_H (fun H hH => ?_)
  have hP : va_P D vwCl (rowW r la bs cA (nI n) wm df q wd zs h) H := by rw [hH]; exact hP
  have hS : va_S A s.heap H [] := by rw [hH]; exact va_S.rf
  have hl := lv_entry ([.ref r]) (n := 6) (Nat.le_of_ble_eq_true rfl)
  rw [lg_entry_eq]
  generalize (lg_sl ([.ref r]) ++ List.replicate (6 - (lg_sl ([.ref r])).length) Slot.unset).toArray = ls at hl ⊢
  have hl : lv_has ls 6 [(0, .ref r)] := hl
  refine lv_aload_n hx hb dX1_ageAll_0 rfl (lv_at hl 0 rfl) ?_
  refine kr_d (W.runV (As := []) (rest := []) ⟨hx, hb, hml, hown, hts⟩ (metX1_draughtNow l D r la bs cA n hn wm df q wd zs h hdr) (cwV 0 hts gX1_ageAll_X1_draughtNow rfl rfl rfl (by decide +kernel) ⟨Nat.le_of_ble_eq_true rfl, Nat.le_of_ble_eq_true rfl⟩) (prV 1 0 RX1 TX1 5 rfl rfl hP hK) rfl rfl hl.1 rfl (lv_room (Nat.le_of_ble_eq_true rfl)) dX1_ageAll_1 ⟨Nat.le_of_ble_eq_true rfl, Nat.le_of_ble_eq_true rfl⟩) ?_
  refine lv_dstore_n (lv' := [(1, .double (drv wm)), (0, .ref r)]) hx hb dX1_ageAll_4 rfl hl (by decide) rfl (fun ls hl => ?_)
  refine kd_0 hx hb dX1_ageAll_5 ?_
  refine lv_dstore_n (lv' := [(3, .double 0), (1, .double (drv wm)), (0, .ref r)]) hx hb dX1_ageAll_6 rfl hl (by decide) rfl (fun ls hl => ?_)
  refine lv_iconst (v := 0) hx hb dX1_ageAll_7 (by decide) ?_
  refine lv_istore (lv' := [(5, .int 0), (3, .double 0), (1, .double (drv wm)), (0, .ref r)]) hx hb dX1_ageAll_8 hl (by decide) rfl (fun ls hl => ?_)
  refine kW_up (n) (fun i H locs ls => va_P D vwCl (rowW r la bs cA (nI n) wm df q wd zs (agH wd (drv wm) h i)) H ∧ va_D A (rowW r la bs cA (nI n) wm df q wd zs (agH wd (drv wm) h i)) ∧ va_S A s.heap H locs ∧ lv_has ls 6 [(5, .int (nI i)), (3, .double (agS wd (drv wm) h i)), (1, .double (drv wm)), (0, .ref r)]) (fun i H locs ls hi hI ih => ?_) (fun H locs ls hI => ?_) ⟨hP, hD, hS, lv_sub hl [0, 1, 2, 3] (rfl)⟩
  · obtain ⟨hP, hD, hS, hl⟩ := hI
    refine lv_iload hx hb dX1_ageAll_10 (lv_at hl 0 rfl) ?_
    refine lv_aload_n hx hb dX1_ageAll_12 rfl (lv_at hl 3 rfl) ?_
    refine va_get (D := D) (ci := 1) (v := .int (nI n)) (C := RX1) (T := TX1) (N := 5) hx hb hts (by decide +kernel) hown hK hP (0) rfl rfl 1 (by decide) (hts (.fieldLink RX1 18 "VinegarLoft$Row" "count" "I") (by decide +kernel)) (fun _ h9 => h9) rfl dX1_ageAll_13 ?_
    refine lv_icmp_ge (tgt := 52) hx hb dX1_ageAll_16 (by decide) (fun c16 => absurd c16 (nI_ge hi (by omega))) (fun c16 => ?_)
    refine lv_aload_n hx hb dX1_ageAll_19 rfl (lv_at hl 3 rfl) ?_
    refine va_get (D := D) (ci := 1) (v := .ref la) (C := RX1) (T := TX1) (N := 5) hx hb hts (by decide +kernel) hown hK hP (0) rfl rfl 0 (by decide) (hts (.fieldLink RX1 11 "VinegarLoft$Row" "line" "[LVinegarLoft$Barrel;") (by decide +kernel)) (fun _ h9 => h9) rfl dX1_ageAll_20 ?_
    refine lv_iload hx hb dX1_ageAll_23 (lv_at hl 0 rfl) ?_
    refine kx_ald hx hb hK hP (1) 0 rfl rfl (j := i) rfl (by omega) dX1_ageAll_25 ?_
    refine kr_i (W.runV (As := []) (rest := []) ⟨hx, hb, hml, hown, hts⟩ (metX0_isEmpty l D (bs i) (wd i) (zs i) ((agH wd (drv wm) h i) i) ((agH wd (drv wm) h i) (8 + i)) ((agH wd (drv wm) h i) (16 + i)) ((agH wd (drv wm) h i) (24 + i)) (hok i hi).1) (cwV 0 hts gX1_ageAll_X0_isEmpty rfl rfl rfl (by decide +kernel) ⟨Nat.le_of_ble_eq_true rfl, Nat.le_of_ble_eq_true rfl⟩) (prV 0 0 RX0 TX0 6 rfl rfl (vj_oP (rowW_b (show i < 8 by omega)) hP) (hK.sub [] rfl)) rfl rfl hl.1 rfl (lv_room (Nat.le_of_ble_eq_true rfl)) dX1_ageAll_26 ⟨Nat.le_of_ble_eq_true rfl, Nat.le_of_ble_eq_true rfl⟩) ?_
    refine lv_if_ne (tgt := 46) hx hb dX1_ageAll_29 (by decide) (fun c29 => ?_) (fun c29 => ?_)
    · refine lv_iinc (v := nI (i + 1)) (lv' := [(5, .int (nI (i + 1))), (3, .double (agS wd (drv wm) h i)), (1, .double (drv wm)), (0, .ref r)]) hx hb dX1_ageAll_46 hl (k := 0) rfl (nI_1 i) (by decide) rfl (fun ls hl => ?_)
      refine lv_goto (tgt := 10) hx hb dX1_ageAll_49 (by decide) ?_
      have g : FP.dcmp (agH wd (drv wm) h i i) 0 ≠ some .gt := fun h9 => c29 (emp0.mpr h9)
      have eH : agH wd (drv wm) h (i + 1) = agH wd (drv wm) h i := if_neg g
      have eS : agS wd (drv wm) h (i + 1) = agS wd (drv wm) h i := if_neg g
      have hP : va_P D vwCl (rowW r la bs cA (nI n) wm df q wd zs (agH wd (drv wm) h (i + 1))) H := by rw [eH]; exact hP
      have hD : va_D A (rowW r la bs cA (nI n) wm df q wd zs (agH wd (drv wm) h (i + 1))) := by rw [eH]; exact hD
      exact ih H locs ls ⟨hP, hD, hS, lv_sub hl [0, 1, 2, 3] (by rw [eS]; rfl)⟩
    · refine lv_dload_n hx hb dX1_ageAll_32 rfl (lv_at hl 1 rfl) ?_
      refine lv_aload_n hx hb dX1_ageAll_33 rfl (lv_at hl 3 rfl) ?_
      refine va_get (D := D) (ci := 1) (v := .ref la) (C := RX1) (T := TX1) (N := 5) hx hb hts (by decide +kernel) hown hK hP (0) rfl rfl 0 (by decide) (hts (.fieldLink RX1 11 "VinegarLoft$Row" "line" "[LVinegarLoft$Barrel;") (by decide +kernel)) (fun _ h9 => h9) rfl dX1_ageAll_34 ?_
      refine lv_iload hx hb dX1_ageAll_37 (lv_at hl 0 rfl) ?_
      refine kx_ald hx hb hK hP (1) 0 rfl rfl (j := i) rfl (by omega) dX1_ageAll_39 ?_
      refine lv_dload_n hx hb dX1_ageAll_40 rfl (lv_at hl 2 rfl) ?_
      have g := emp0.mp c29
      obtain ⟨ok1, ok2⟩ := (hok i hi).2 g
      refine ko_d (va_runV (As := [.double (drv wm)]) (rest := [.double (agS wd (drv wm) h i)]) ⟨hx, hb, hml, hown, hts⟩ (metX0_spendYear l D H.size (bs i) (wd i) (zs i) ((agH wd (drv wm) h i) i) ((agH wd (drv wm) h i) (8 + i)) ((agH wd (drv wm) h i) (16 + i)) ((agH wd (drv wm) h i) (24 + i)) (drv wm) ok1) (cwV 1 hts gX1_ageAll_X0_spendYear rfl rfl rfl (by decide +kernel) ⟨Nat.le_of_ble_eq_true rfl, Nat.le_of_ble_eq_true rfl⟩) (pmV 0 0 RX0 TX0 6 rfl rfl (vj_oP (rowW_b (show i < 8 by omega)) hP) (hK.sub [] rfl) (vj_oD (rowW_b (show i < 8 by omega)) hD)) rfl rfl hl.1 rfl (lv_room (Nat.le_of_ble_eq_true rfl)) dX1_ageAll_41 ⟨Nat.le_of_ble_eq_true rfl, Nat.le_of_ble_eq_true rfl⟩) (rowW_b (show i < 8 by omega)) hP hD hS hA (fun H locs hP hD hS => ?_)
      have eH : agH wd (drv wm) h (i + 1) = _ := if_pos g
      have hP : va_P D vwCl (rowW r la bs cA (nI n) wm df q wd zs (agH wd (drv wm) h (i + 1))) H := by rw [eH, ← rowW_sh (show i < 8 by omega)]; exact hP
      have hD : va_D A (rowW r la bs cA (nI n) wm df q wd zs (agH wd (drv wm) h (i + 1))) := by rw [eH, ← rowW_sh (show i < 8 by omega)]; exact hD
      refine lv_dadd hx hb dX1_ageAll_44 ok2 ?_
      refine kd_eq (show FP.dadd (agS wd (drv wm) h i) (losv (wd i) (agH wd (drv wm) h i i) (drv wm)) = agS wd (drv wm) h (i + 1) from (if_pos g).symm) ?_
      refine lv_dstore_n (lv' := [(3, .double (agS wd (drv wm) h (i + 1))), (5, .int (nI i)), (1, .double (drv wm)), (0, .ref r)]) hx hb dX1_ageAll_45 rfl hl (by decide) rfl (fun ls hl => ?_)
      refine lv_iinc (v := nI (i + 1)) (lv' := [(5, .int (nI (i + 1))), (3, .double (agS wd (drv wm) h (i + 1))), (1, .double (drv wm)), (0, .ref r)]) hx hb dX1_ageAll_46 hl (k := 1) rfl (nI_1 i) (by decide) rfl (fun ls hl => ?_)
      refine lv_goto (tgt := 10) hx hb dX1_ageAll_49 (by decide) ?_
      exact ih H locs ls ⟨hP, hD, hS, lv_sub hl [0, 1, 2, 3] (rfl)⟩
  · obtain ⟨hP, hD, hS, hl⟩ := hI
    refine lv_iload hx hb dX1_ageAll_10 (lv_at hl 0 rfl) ?_
    refine lv_aload_n hx hb dX1_ageAll_12 rfl (lv_at hl 3 rfl) ?_
    refine va_get (D := D) (ci := 1) (v := .int (nI n)) (C := RX1) (T := TX1) (N := 5) hx hb hts (by decide +kernel) hown hK hP (0) rfl rfl 1 (by decide) (hts (.fieldLink RX1 18 "VinegarLoft$Row" "count" "I") (by decide +kernel)) (fun _ h9 => h9) rfl dX1_ageAll_13 ?_
    refine lv_icmp_ge (tgt := 52) hx hb dX1_ageAll_16 (by decide) (fun c16 => ?_) (fun c16 => absurd (nI_le (Nat.le_refl n) (by omega)) c16)
    refine lv_aload_n hx hb dX1_ageAll_52 rfl (lv_at hl 3 rfl) ?_
    refine lv_aload_n hx hb dX1_ageAll_53 rfl (lv_at hl 3 rfl) ?_
    refine kr_i (W.runV (As := []) (rest := [.ref r]) ⟨hx, hb, hml, hown, hts⟩ (metX1_eldest l D r la bs cA n hn wm df q wd zs (agH wd (drv wm) h n) hN) (cwV 0 hts gX1_ageAll_X1_eldest rfl rfl rfl (by decide +kernel) ⟨Nat.le_of_ble_eq_true rfl, Nat.le_of_ble_eq_true rfl⟩) (prV 1 0 RX1 TX1 5 rfl rfl hP hK) rfl rfl hl.1 rfl (lv_room (Nat.le_of_ble_eq_true rfl)) dX1_ageAll_54 ⟨Nat.le_of_ble_eq_true rfl, Nat.le_of_ble_eq_true rfl⟩) ?_
    rcases ho : elO (agH wd (drv wm) h n) n with _ | b
    · have ho9 := ho
      refine va_put (D := D) (ci := 1) (v := .int (-1)) (ty := .int) (C := RX1) (T := TX1) (N := 5) hx hb hts (by decide +kernel) tyX1 tyX1_ok nmX1 hown hK hP hD hS (0) rfl rfl 3 (by decide) (hts (.fieldLink RX1 25 "VinegarLoft$Row" "drawnFrom" "I") (by decide +kernel)) (fun _ h9 => h9) rfl (by decide +kernel) rfl rfl (Nat.le_of_ble_eq_true rfl) dX1_ageAll_57 (fun H locs hP hD hS => ?_)
      have hP : va_P D vwCl (rowW r la bs cA (nI n) wm (-1) q wd zs (agH wd (drv wm) h n)) H := hP
      have hD : va_D A (rowW r la bs cA (nI n) wm (-1) q wd zs (agH wd (drv wm) h n)) := hD
      refine lv_aload_n hx hb dX1_ageAll_60 rfl (lv_at hl 3 rfl) ?_
      refine lv_aload_n hx hb dX1_ageAll_61 rfl (lv_at hl 3 rfl) ?_
      refine va_get (D := D) (ci := 1) (v := .int (-1)) (C := RX1) (T := TX1) (N := 5) hx hb hts (by decide +kernel) hown hK hP (0) rfl rfl 3 (by decide) (hts (.fieldLink RX1 25 "VinegarLoft$Row" "drawnFrom" "I") (by decide +kernel)) (fun _ h9 => h9) rfl dX1_ageAll_62 ?_
      refine lv_iconst (v := (-1)) hx hb dX1_ageAll_65 (by decide) ?_
      refine lv_icmp_ne (tgt := 73) hx hb dX1_ageAll_66 (by decide) (fun c66 => absurd c66 (fun h9 => h9 rfl)) (fun c66 => ?_)
      refine kd_0 hx hb dX1_ageAll_69 ?_
      refine lv_goto (tgt := 89) hx hb dX1_ageAll_70 (by decide) ?_
      refine va_put (D := D) (ci := 1) (v := .double 0) (ty := .double) (C := RX1) (T := TX1) (N := 5) hx hb hts (by decide +kernel) tyX1 tyX1_ok nmX1 hown hK hP hD hS (0) rfl rfl 4 (by decide) (hts (.fieldLink RX1 28 "VinegarLoft$Row" "mayBeDrawn" "D") (by decide +kernel)) (fun _ h9 => h9) rfl (by decide +kernel) rfl rfl (Nat.le_of_ble_eq_true rfl) dX1_ageAll_89 (fun H locs hP hD hS => ?_)
      have hP : va_P D vwCl (rowW r la bs cA (nI n) wm (-1) 0 wd zs (agH wd (drv wm) h n)) H := hP
      have hD : va_D A (rowW r la bs cA (nI n) wm (-1) 0 wd zs (agH wd (drv wm) h n)) := hD
      refine lv_dload_n hx hb dX1_ageAll_92 rfl (lv_at hl 1 rfl) ?_
      exact W.dret hx hb hr (fun t ht hW => ⟨⟨_, (), rfl, rfl, by rw [ht]; exact hP, va_K.moved hW.alike hK, hD⟩, hS.F ht⟩) hS.2.2 dX1_ageAll_93
    · have hbn : b < n := elO_lt (agH wd (drv wm) h n) n b ho
      refine va_put (D := D) (ci := 1) (v := .int (nI b)) (ty := .int) (C := RX1) (T := TX1) (N := 5) hx hb hts (by decide +kernel) tyX1 tyX1_ok nmX1 hown hK hP hD hS (0) rfl rfl 3 (by decide) (hts (.fieldLink RX1 25 "VinegarLoft$Row" "drawnFrom" "I") (by decide +kernel)) (fun _ h9 => h9) rfl (by decide +kernel) rfl rfl (Nat.le_of_ble_eq_true rfl) dX1_ageAll_57 (fun H locs hP hD hS => ?_)
      have hP : va_P D vwCl (rowW r la bs cA (nI n) wm (nI b) q wd zs (agH wd (drv wm) h n)) H := hP
      have hD : va_D A (rowW r la bs cA (nI n) wm (nI b) q wd zs (agH wd (drv wm) h n)) := hD
      refine lv_aload_n hx hb dX1_ageAll_60 rfl (lv_at hl 3 rfl) ?_
      refine lv_aload_n hx hb dX1_ageAll_61 rfl (lv_at hl 3 rfl) ?_
      refine va_get (D := D) (ci := 1) (v := .int (nI b)) (C := RX1) (T := TX1) (N := 5) hx hb hts (by decide +kernel) hown hK hP (0) rfl rfl 3 (by decide) (hts (.fieldLink RX1 25 "VinegarLoft$Row" "drawnFrom" "I") (by decide +kernel)) (fun _ h9 => h9) rfl dX1_ageAll_62 ?_
      refine lv_iconst (v := (-1)) hx hb dX1_ageAll_65 (by decide) ?_
      refine lv_icmp_ne (tgt := 73) hx hb dX1_ageAll_66 (by decide) (fun c66 => ?_) (fun c66 => absurd c66 (nI_m1 (by omega)))
      refine lv_ldc2d hx hb hown (hts (.constantDouble RX1 94 4598175219545276416) (by decide +kernel)) dX1_ageAll_73 ?_
      refine lv_aload_n hx hb dX1_ageAll_76 rfl (lv_at hl 3 rfl) ?_
      refine va_get (D := D) (ci := 1) (v := .ref la) (C := RX1) (T := TX1) (N := 5) hx hb hts (by decide +kernel) hown hK hP (0) rfl rfl 0 (by decide) (hts (.fieldLink RX1 11 "VinegarLoft$Row" "line" "[LVinegarLoft$Barrel;") (by decide +kernel)) (fun _ h9 => h9) rfl dX1_ageAll_77 ?_
      refine lv_aload_n hx hb dX1_ageAll_80 rfl (lv_at hl 3 rfl) ?_
      refine va_get (D := D) (ci := 1) (v := .int (nI b)) (C := RX1) (T := TX1) (N := 5) hx hb hts (by decide +kernel) hown hK hP (0) rfl rfl 3 (by decide) (hts (.fieldLink RX1 25 "VinegarLoft$Row" "drawnFrom" "I") (by decide +kernel)) (fun _ h9 => h9) rfl dX1_ageAll_81 ?_
      refine kx_ald hx hb hK hP (1) 0 rfl rfl (j := b) rfl (by omega) dX1_ageAll_84 ?_
      refine va_get (D := D) (ci := 0) (v := .double ((agH wd (drv wm) h n) b)) (C := RX0) (T := TX0) (N := 6) hx hb hts (by decide +kernel) hown hK hP (2 + b) (rowW_b (show b < 8 by omega)) rfl 2 (by decide) (hts (.fieldLink RX1 49 "VinegarLoft$Barrel" "litres" "D") (by decide +kernel)) (fun _ h9 => h9) rfl dX1_ageAll_85 ?_
      refine lv_dmul hx hb dX1_ageAll_88 (hq b hbn) ?_
      refine va_put (D := D) (ci := 1) (v := .double (FP.dmul 4598175219545276416 ((agH wd (drv wm) h n) b))) (ty := .double) (C := RX1) (T := TX1) (N := 5) hx hb hts (by decide +kernel) tyX1 tyX1_ok nmX1 hown hK hP hD hS (0) rfl rfl 4 (by decide) (hts (.fieldLink RX1 28 "VinegarLoft$Row" "mayBeDrawn" "D") (by decide +kernel)) (fun _ h9 => h9) rfl (by decide +kernel) rfl rfl (Nat.le_of_ble_eq_true rfl) dX1_ageAll_89 (fun H locs hP hD hS => ?_)
      have hP : va_P D vwCl (rowW r la bs cA (nI n) wm (nI b) (FP.dmul 4598175219545276416 ((agH wd (drv wm) h n) b)) wd zs (agH wd (drv wm) h n)) H := hP
      have hD : va_D A (rowW r la bs cA (nI n) wm (nI b) (FP.dmul 4598175219545276416 ((agH wd (drv wm) h n) b)) wd zs (agH wd (drv wm) h n)) := hD
      refine lv_dload_n hx hb dX1_ageAll_92 rfl (lv_at hl 1 rfl) ?_
      exact W.dret hx hb hr (fun t ht hW => ⟨⟨_, (), rfl, rfl, by rw [ht]; exact hP, va_K.moved hW.alike hK, hD⟩, hS.F ht⟩) hS.2.2 dX1_ageAll_93
set_option maxHeartbeats 4000000 in
set_option maxRecDepth 100000 in
/-- copyFrom(other) -/
theorem metX1_copyFrom (l : Launch) (D : va_G) (sz : Nat) (r la : Nat) (bs : Nat → Nat) (cA : ClassId) (n : Nat) (hn : n ≤ 8) (wm df : Int32) (q : UInt64) (wd zs : Nat → Int32) (h : Nat → UInt64) (r2 la2 : Nat) (bs2 : Nat → Nat) (n2 : Nat) (hn2 : n2 ≤ 8) (wm2 df2 : Int32) (q2 : UInt64) (wd2 zs2 : Nat → Int32) (h2 : Nat → UInt64)  : Met l yX1_copyFrom wsX1_copyFrom { frames := 1, cells := 0, slots := 0, locals := 21 } (Pm D [(cA, .object "VinegarLoft$Barrel")] [.ref r, .ref r2] (rowW r la bs cA (nI n) wm df q wd zs h ++ rowW r2 la2 bs2 cA (nI n2) wm2 df2 q2 wd2 zs2 h2) sz) (va_Qv (fun (_ : Unit) => True) (Bm D [(cA, .object "VinegarLoft$Barrel")] (va_A (rowW r la bs cA (nI n) wm df q wd zs h ++ rowW r2 la2 bs2 cA (nI n2) wm2 df2 q2 wd2 zs2 h2) sz) (rowW r la bs cA (nI n2) wm2 df2 q2 (cpI n2 wd wd2) (cpI n2 zs zs2) (cpH n2 h h2) ++ rowW r2 la2 bs2 cA (nI n2) wm2 df2 q2 wd2 zs2 h2)) (va_A (rowW r la bs cA (nI n) wm df q wd zs h ++ rowW r2 la2 bs2 cA (nI n2) wm2 df2 q2 wd2 zs2 h2) sz)) 0 0 (va_A (rowW r la bs cA (nI n) wm df q wd zs h ++ rowW r2 la2 bs2 cA (nI n2) wm2 df2 q2 wd2 zs2 h2) sz) := by
  refine Met.ofW (cc := cX1_copyFrom) (maxL := 3) (ret := none) (by decide) rfl ?_
  intro p e s m args below meth c s₁ B hml hv
  obtain ⟨rfl, hsz, hP, hK, hD0⟩ := hv
  have hx := B.exec
  have hb := B.bytes
  have hr := B.returns
  have hts := atoms_spec (ws := wsX1_copyFrom) B.pre
  have hown : s.vm.findClass RX1 = some m.cls := findClass_of_methodNamed B.named
  have hlocks := B.notSynchronized
  subst hsz
  have hD := hD0.self (sz := s.heap.size)
  generalize hAe : va_A (rowW r la bs cA (nI n) wm df q wd zs h ++ rowW r2 la2 bs2 cA (nI n2) wm2 df2 q2 wd2 zs2 h2) s.heap.size = A at hD ⊢
  have hA : ∀ q : Nat, s.heap.size ≤ q → A q := fun q h => by rw [← hAe]; exact Or.inr h
  refine kW_H (fun H hH => ?_)
  have hP : va_P D vwCl (rowW r la bs cA (nI n) wm df q wd zs h ++ rowW r2 la2 bs2 cA (nI n2) wm2 df2 q2 wd2 zs2 h2) H := by rw [hH]; exact hP
  have hS : va_S A s.heap H [] := by rw [hH]; exact va_S.rf
  have hl := lv_entry ([.ref r, .ref r2]) (n := 3) (Nat.le_of_ble_eq_true rfl)
  rw [lg_entry_eq]
  generalize (lg_sl ([.ref r, .ref r2]) ++ List.replicate (3 - (lg_sl ([.ref r, .ref r2])).length) Slot.unset).toArray = ls at hl ⊢
  have hl : lv_has ls 3 [(0, .ref r), (1, .ref r2)] := hl
  refine lv_aload_n hx hb dX1_copyFrom_0 rfl (lv_at hl 0 rfl) ?_
  refine lv_aload_n hx hb dX1_copyFrom_1 rfl (lv_at hl 1 rfl) ?_
  refine va_get (D := D) (ci := 1) (v := .int (nI n2)) (C := RX1) (T := TX1) (N := 5) hx hb hts (by decide +kernel) hown hK hP (10) rfl rfl 1 (by decide) (hts (.fieldLink RX1 18 "VinegarLoft$Row" "count" "I") (by decide +kernel)) (fun _ h9 => h9) rfl dX1_copyFrom_2 ?_
  refine va_put (D := D) (ci := 1) (v := .int (nI n2)) (ty := .int) (C := RX1) (T := TX1) (N := 5) hx hb hts (by decide +kernel) tyX1 tyX1_ok nmX1 hown hK hP hD hS (0) rfl rfl 1 (by decide) (hts (.fieldLink RX1 18 "VinegarLoft$Row" "count" "I") (by decide +kernel)) (fun _ h9 => h9) rfl (by decide +kernel) rfl rfl (Nat.le_of_ble_eq_true rfl) dX1_copyFrom_5 (fun H locs hP hD hS => ?_)
  have hP : va_P D vwCl (rowW r la bs cA (nI n2) wm df q wd zs h ++ rowW r2 la2 bs2 cA (nI n2) wm2 df2 q2 wd2 zs2 h2) H := hP
  have hD : va_D A (rowW r la bs cA (nI n2) wm df q wd zs h ++ rowW r2 la2 bs2 cA (nI n2) wm2 df2 q2 wd2 zs2 h2) := hD
  refine lv_aload_n hx hb dX1_copyFrom_8 rfl (lv_at hl 0 rfl) ?_
  refine lv_aload_n hx hb dX1_copyFrom_9 rfl (lv_at hl 1 rfl) ?_
  refine va_get (D := D) (ci := 1) (v := .int wm2) (C := RX1) (T := TX1) (N := 5) hx hb hts (by decide +kernel) hown hK hP (10) rfl rfl 2 (by decide) (hts (.fieldLink RX1 22 "VinegarLoft$Row" "warmth" "I") (by decide +kernel)) (fun _ h9 => h9) rfl dX1_copyFrom_10 ?_
  refine va_put (D := D) (ci := 1) (v := .int wm2) (ty := .int) (C := RX1) (T := TX1) (N := 5) hx hb hts (by decide +kernel) tyX1 tyX1_ok nmX1 hown hK hP hD hS (0) rfl rfl 2 (by decide) (hts (.fieldLink RX1 22 "VinegarLoft$Row" "warmth" "I") (by decide +kernel)) (fun _ h9 => h9) rfl (by decide +kernel) rfl rfl (Nat.le_of_ble_eq_true rfl) dX1_copyFrom_13 (fun H locs hP hD hS => ?_)
  have hP : va_P D vwCl (rowW r la bs cA (nI n2) wm2 df q wd zs h ++ rowW r2 la2 bs2 cA (nI n2) wm2 df2 q2 wd2 zs2 h2) H := hP
  have hD : va_D A (rowW r la bs cA (nI n2) wm2 df q wd zs h ++ rowW r2 la2 bs2 cA (nI n2) wm2 df2 q2 wd2 zs2 h2) := hD
  refine lv_aload_n hx hb dX1_copyFrom_16 rfl (lv_at hl 0 rfl) ?_
  refine lv_aload_n hx hb dX1_copyFrom_17 rfl (lv_at hl 1 rfl) ?_
  refine va_get (D := D) (ci := 1) (v := .int df2) (C := RX1) (T := TX1) (N := 5) hx hb hts (by decide +kernel) hown hK hP (10) rfl rfl 3 (by decide) (hts (.fieldLink RX1 25 "VinegarLoft$Row" "drawnFrom" "I") (by decide +kernel)) (fun _ h9 => h9) rfl dX1_copyFrom_18 ?_
  refine va_put (D := D) (ci := 1) (v := .int df2) (ty := .int) (C := RX1) (T := TX1) (N := 5) hx hb hts (by decide +kernel) tyX1 tyX1_ok nmX1 hown hK hP hD hS (0) rfl rfl 3 (by decide) (hts (.fieldLink RX1 25 "VinegarLoft$Row" "drawnFrom" "I") (by decide +kernel)) (fun _ h9 => h9) rfl (by decide +kernel) rfl rfl (Nat.le_of_ble_eq_true rfl) dX1_copyFrom_21 (fun H locs hP hD hS => ?_)
  have hP : va_P D vwCl (rowW r la bs cA (nI n2) wm2 df2 q wd zs h ++ rowW r2 la2 bs2 cA (nI n2) wm2 df2 q2 wd2 zs2 h2) H := hP
  have hD : va_D A (rowW r la bs cA (nI n2) wm2 df2 q wd zs h ++ rowW r2 la2 bs2 cA (nI n2) wm2 df2 q2 wd2 zs2 h2) := hD
  refine lv_aload_n hx hb dX1_copyFrom_24 rfl (lv_at hl 0 rfl) ?_
  refine lv_aload_n hx hb dX1_copyFrom_25 rfl (lv_at hl 1 rfl) ?_
  refine va_get (D := D) (ci := 1) (v := .double q2) (C := RX1) (T := TX1) (N := 5) hx hb hts (by decide +kernel) hown hK hP (10) rfl rfl 4 (by decide) (hts (.fieldLink RX1 28 "VinegarLoft$Row" "mayBeDrawn" "D") (by decide +kernel)) (fun _ h9 => h9) rfl dX1_copyFrom_26 ?_
  refine va_put (D := D) (ci := 1) (v := .double q2) (ty := .double) (C := RX1) (T := TX1) (N := 5) hx hb hts (by decide +kernel) tyX1 tyX1_ok nmX1 hown hK hP hD hS (0) rfl rfl 4 (by decide) (hts (.fieldLink RX1 28 "VinegarLoft$Row" "mayBeDrawn" "D") (by decide +kernel)) (fun _ h9 => h9) rfl (by decide +kernel) rfl rfl (Nat.le_of_ble_eq_true rfl) dX1_copyFrom_29 (fun H locs hP hD hS => ?_)
  have hP : va_P D vwCl (rowW r la bs cA (nI n2) wm2 df2 q2 wd zs h ++ rowW r2 la2 bs2 cA (nI n2) wm2 df2 q2 wd2 zs2 h2) H := hP
  have hD : va_D A (rowW r la bs cA (nI n2) wm2 df2 q2 wd zs h ++ rowW r2 la2 bs2 cA (nI n2) wm2 df2 q2 wd2 zs2 h2) := hD
  refine lv_iconst (v := 0) hx hb dX1_copyFrom_32 (by decide) ?_
  refine lv_istore_n (lv' := [(2, .int 0), (0, .ref r), (1, .ref r2)]) hx hb dX1_copyFrom_33 rfl hl (by decide) rfl (fun ls hl => ?_)
  have hP : va_P D vwCl (rowW r la bs cA (nI n2) wm2 df2 q2 (cpI 0 wd wd2) (cpI 0 zs zs2) (cpH 0 h h2) ++ rowW r2 la2 bs2 cA (nI n2) wm2 df2 q2 wd2 zs2 h2) H := by rw [cpI_0, cpI_0, cpH_0]; exact hP
  have hD : va_D A (rowW r la bs cA (nI n2) wm2 df2 q2 (cpI 0 wd wd2) (cpI 0 zs zs2) (cpH 0 h h2) ++ rowW r2 la2 bs2 cA (nI n2) wm2 df2 q2 wd2 zs2 h2) := by rw [cpI_0, cpI_0, cpH_0]; exact hD
  refine kW_up (n2) (fun i H locs ls => va_P D vwCl (rowW r la bs cA (nI n2) wm2 df2 q2 (cpI i wd wd2) (cpI i zs zs2) (cpH i h h2) ++ rowW r2 la2 bs2 cA (nI n2) wm2 df2 q2 wd2 zs2 h2) H ∧ va_D A (rowW r la bs cA (nI n2) wm2 df2 q2 (cpI i wd wd2) (cpI i zs zs2) (cpH i h h2) ++ rowW r2 la2 bs2 cA (nI n2) wm2 df2 q2 wd2 zs2 h2) ∧ va_S A s.heap H locs ∧ lv_has ls 3 [(2, .int (nI i)), (0, .ref r), (1, .ref r2)]) (fun i H locs ls hi hI ih => ?_) (fun H locs ls hI => ?_) ⟨hP, hD, hS, lv_sub hl [0, 1, 2] (rfl)⟩
  · obtain ⟨hP, hD, hS, hl⟩ := hI
    refine lv_iload_n hx hb dX1_copyFrom_34 rfl (lv_at hl 0 rfl) ?_
    refine lv_aload_n hx hb dX1_copyFrom_35 rfl (lv_at hl 1 rfl) ?_
    refine va_get (D := D) (ci := 1) (v := .int (nI n2)) (C := RX1) (T := TX1) (N := 5) hx hb hts (by decide +kernel) hown hK hP (0) rfl rfl 1 (by decide) (hts (.fieldLink RX1 18 "VinegarLoft$Row" "count" "I") (by decide +kernel)) (fun _ h9 => h9) rfl dX1_copyFrom_36 ?_
    refine lv_icmp_ge (tgt := 63) hx hb dX1_copyFrom_39 (by decide) (fun c39 => absurd c39 (nI_ge hi (by omega))) (fun c39 => ?_)
    refine lv_aload_n hx hb dX1_copyFrom_42 rfl (lv_at hl 1 rfl) ?_
    refine va_get (D := D) (ci := 1) (v := .ref la) (C := RX1) (T := TX1) (N := 5) hx hb hts (by decide +kernel) hown hK hP (0) rfl rfl 0 (by decide) (hts (.fieldLink RX1 11 "VinegarLoft$Row" "line" "[LVinegarLoft$Barrel;") (by decide +kernel)) (fun _ h9 => h9) rfl dX1_copyFrom_43 ?_
    refine lv_iload_n hx hb dX1_copyFrom_46 rfl (lv_at hl 0 rfl) ?_
    refine kx_ald hx hb hK hP 1 0 rfl rfl (j := i) rfl (by omega) dX1_copyFrom_47 ?_
    refine lv_aload_n hx hb dX1_copyFrom_48 rfl (lv_at hl 2 rfl) ?_
    refine va_get (D := D) (ci := 1) (v := .ref la2) (C := RX1) (T := TX1) (N := 5) hx hb hts (by decide +kernel) hown hK hP (10) rfl rfl 0 (by decide) (hts (.fieldLink RX1 11 "VinegarLoft$Row" "line" "[LVinegarLoft$Barrel;") (by decide +kernel)) (fun _ h9 => h9) rfl dX1_copyFrom_49 ?_
    refine lv_iload_n hx hb dX1_copyFrom_52 rfl (lv_at hl 0 rfl) ?_
    refine kx_ald hx hb hK hP 11 0 rfl rfl (j := i) rfl (by omega) dX1_copyFrom_53 ?_
    refine kt_v (k1 := 2 + i) (k2 := 10 + (2 + i)) (va_runV (As := [.ref (bs2 i)]) (rest := []) ⟨hx, hb, hml, hown, hts⟩ (metX0_copyFrom l D H.size (bs i) ((cpI i wd wd2) i) ((cpI i zs zs2) i) ((cpH i h h2) i) ((cpH i h h2) (8 + i)) ((cpH i h h2) (16 + i)) ((cpH i h h2) (24 + i)) (bs2 i) (wd2 i) (zs2 i) (h2 i) (h2 (8 + i)) (h2 (16 + i)) (h2 (24 + i))) (cwV 1 hts gX1_copyFrom_X0_copyFrom rfl rfl rfl (by decide +kernel) ⟨Nat.le_of_ble_eq_true rfl, Nat.le_of_ble_eq_true rfl⟩) (pmV 0 0 RX0 TX0 6 rfl rfl (vj_tP (k1 := 2 + i) (k2 := 10 + (2 + i)) (rowT_1 (show i < 8 by omega)) (rowT_2 rfl (show i < 8 by omega)) hP) (hK.sub [] rfl) (vj_tD (k1 := 2 + i) (k2 := 10 + (2 + i)) (rowT_1 (show i < 8 by omega)) (rowT_2 rfl (show i < 8 by omega)) (by omega) hD)) rfl rfl hl.1 rfl (lv_room (Nat.le_of_ble_eq_true rfl)) dX1_copyFrom_54 ⟨Nat.le_of_ble_eq_true rfl, Nat.le_of_ble_eq_true rfl⟩) (rowT_1 (show i < 8 by omega)) (rowT_2 rfl (show i < 8 by omega)) (by omega) hP hD hS hA (fun H locs hP hD hS => ?_)
    have hP : va_P D vwCl (rowW r la bs cA (nI n2) wm2 df2 q2 (cpI (i + 1) wd wd2) (cpI (i + 1) zs zs2) (cpH (i + 1) h h2) ++ rowW r2 la2 bs2 cA (nI n2) wm2 df2 q2 wd2 zs2 h2) H := by rw [← cpI_s, ← cpI_s, ← cpH_s (show i < 8 by omega), ← rowT_cp (show i < 8 by omega)]; exact hP
    have hD : va_D A (rowW r la bs cA (nI n2) wm2 df2 q2 (cpI (i + 1) wd wd2) (cpI (i + 1) zs zs2) (cpH (i + 1) h h2) ++ rowW r2 la2 bs2 cA (nI n2) wm2 df2 q2 wd2 zs2 h2) := by rw [← cpI_s, ← cpI_s, ← cpH_s (show i < 8 by omega), ← rowT_cp (show i < 8 by omega)]; exact hD
    refine lv_iinc (v := nI (i + 1)) (lv' := [(2, .int (nI (i + 1))), (0, .ref r), (1, .ref r2)]) hx hb dX1_copyFrom_57 hl (k := 0) rfl (nI_1 i) (by decide) rfl (fun ls hl => ?_)
    refine lv_goto (tgt := 34) hx hb dX1_copyFrom_60 (by decide) ?_
    exact ih H locs ls ⟨hP, hD, hS, lv_sub hl [0, 1, 2] (rfl)⟩
  · obtain ⟨hP, hD, hS, hl⟩ := hI
    refine lv_iload_n hx hb dX1_copyFrom_34 rfl (lv_at hl 0 rfl) ?_
    refine lv_aload_n hx hb dX1_copyFrom_35 rfl (lv_at hl 1 rfl) ?_
    refine va_get (D := D) (ci := 1) (v := .int (nI n2)) (C := RX1) (T := TX1) (N := 5) hx hb hts (by decide +kernel) hown hK hP (0) rfl rfl 1 (by decide) (hts (.fieldLink RX1 18 "VinegarLoft$Row" "count" "I") (by decide +kernel)) (fun _ h9 => h9) rfl dX1_copyFrom_36 ?_
    refine lv_icmp_ge (tgt := 63) hx hb dX1_copyFrom_39 (by decide) (fun c39 => ?_) (fun c39 => absurd (nI_le (Nat.le_refl n2) (by omega)) c39)
    exact W.vret hx hb hr (fun t ht hW => ⟨⟨(), rfl, trivial, by rw [ht]; exact hP, va_K.moved hW.alike hK, hD⟩, hS.F ht⟩) hS.2.2 dX1_copyFrom_63
end
section
/-! Row(): a line of eight barrels (laid by wip/p23/prog/x1c.py) -/
/-- eight addresses as a table -/
def bsf (b0 b1 b2 b3 b4 b5 b6 b7 : Nat) : Nat → Nat := fun i => match i with
  | 0 => b0
  | 1 => b1
  | 2 => b2
  | 3 => b3
  | 4 => b4
  | 5 => b5
  | 6 => b6
  | _ => b7
/-- an array of references, by its eight places -/
theorem va_line {D : va_G} {cl : List vw_C} {la : Nat} {cA : ClassId} {f g : Nat → Option Nat} {H : Heap} (h : va_at D cl (la, .inl (cA, (8, .inr (.inr (.inr (.inr f)))))) H) (hfg : ∀ j, j < 8 → f j = g j) : va_at D cl (la, .inl (cA, (8, .inr (.inr (.inr (.inr g)))))) H := by
  have h1 : H[la]? = some (arrV cA 8 (fun j => va_rf (f j))) := h
  show H[la]? = some (arrV cA 8 (fun j => va_rf (g j)))
  rw [h1]
  unfold arrV
  congr 2
  refine congrArg Array.ofFn (funext fun j => ?_)
  show va_rf (f j.val) = va_rf (g j.val)
  rw [hfg j.val j.isLt]
/-- the start of a constructor: the class of the line's array is known -/
def Pi (D : va_G) (av : List Value) (ws : va_W) (sz : Nat) : Array Value → State → Prop := va_Pc av (fun U => U.heap.size = sz ∧ va_P D vwCl ws U.heap ∧ va_K D vwCl [] U ∧ va_D (fun _ => True) ws ∧ va_AO "VinegarLoft$Barrel" U ∧ va_Nw (.methodLinkNest RX1 17 yX0_init "VinegarLoft") U)
theorem Pi_blind {D : va_G} {av : List Value} {ws : va_W} {sz : Nat} : FrameBlind (Pi D av ws sz) := fun a U g mk q => by
  obtain ⟨q0, q1, qP, qK, qD, qO, qN⟩ := q
  exact ⟨q0, q1, qP, va_K.moved (u := U) (U := U.calling g mk a) (Vm.Alike.refl U.vm) qK, qD, va_AO.moved (u := U) (U := U.calling g mk a) (Vm.Alike.refl U.vm) qO, va_Nw.same rfl (u := U) (U := U.calling g mk a) rfl qN⟩
theorem piS {s : State} {H : Heap} {D : va_G} {ws : va_W} {A : Nat → Prop} {As : List Value} (hP : va_P D vwCl ws H) (hK : va_K D vwCl [] s) (hD : va_D A ws) (hO : va_AO "VinegarLoft$Barrel" s) (hN : va_Nw (.methodLinkNest RX1 17 yX0_init "VinegarLoft") s) : PreS s H (Pi D As ws H.size) As :=
  ⟨Pi_blind, fun U hU hW => ⟨rfl, by rw [hU], by rw [hU]; exact hP, va_K.moved hW.alike hK, hD.weaken (fun _ _ _ _ => trivial), va_AO.moved hW.alike hO, va_Nw.warmM hW hN⟩⟩
/-- a row as it is made -/
abbrev row0 (r la : Nat) (bs : Nat → Nat) (cA : ClassId) : va_W := rowW r la bs cA (nI 0) 18 (-1) 0 (fun _ => 0) (fun _ => 0) (fun _ => 0)
set_option maxHeartbeats 4000000 in
set_option maxRecDepth 100000 in
/-- Row(): an empty row, eight barrels in its line -/
theorem metX1_init (l : Launch) (D : va_G) (sz : Nat) (r : Nat) : Met l yX1_init wsX1_init { frames := 2, cells := 9, slots := 56, locals := 32 } (Pi D [.ref r] [(r, .inr (1, [.null, .int 0, .int 0, .int 0, .double 0]))] sz) (va_Qv (fun (_ : Nat × (Nat → Nat) × ClassId) => True) (fun u t => va_P D vwCl (row0 r u.1 u.2.1 u.2.2) t.heap ∧ va_K D vwCl [(u.2.2, .object "VinegarLoft$Barrel")] t ∧ va_D (va_A [(r, .inr (1, [.null, .int 0, .int 0, .int 0, .double 0]))] sz) (row0 r u.1 u.2.1 u.2.2)) (va_A [(r, .inr (1, [.null, .int 0, .int 0, .int 0, .double 0]))] sz)) 9 56 (va_A [(r, .inr (1, [.null, .int 0, .int 0, .int 0, .double 0]))] sz) := by
  refine Met.ofW (cc := cX1_init) (maxL := 2) (ret := none) (by decide) rfl ?_
  intro p e s m args below meth c s₁ B hml hv
  obtain ⟨rfl, hsz, hP, hK, hD0, hO, hNw⟩ := hv
  have hx := B.exec
  have hb := B.bytes
  have hr := B.returns
  have hts := atoms_spec (ws := wsX1_init) B.pre
  have hown : s.vm.findClass RX1 = some m.cls := findClass_of_methodNamed B.named
  have hlocks := B.notSynchronized
  have hin : meth.name = "<init>" := (name_of_methodNamed B.named B.method).1
  subst hsz
  have hD := hD0.self (sz := s.heap.size)
  generalize hAe : va_A [(r, .inr (1, [.null, .int 0, .int 0, .int 0, .double 0]))] s.heap.size = A at hD ⊢
  have hA : ∀ q : Nat, s.heap.size ≤ q → A q := fun q h => by rw [← hAe]; exact Or.inr h
  refine kW_H (fun H hH => ?_)
  have hP : va_P D vwCl [(r, .inr (1, [.null, .int 0, .int 0, .int 0, .double 0]))] H := by rw [hH]; exact hP
  have hS : va_S A s.heap H [] := by rw [hH]; exact va_S.rf
  have hl := lv_entry ([.ref r]) (n := 2) (Nat.le_of_ble_eq_true rfl)
  rw [lg_entry_eq]
  generalize (lg_sl ([.ref r]) ++ List.replicate (2 - (lg_sl ([.ref r])).length) Slot.unset).toArray = ls at hl ⊢
  have hl : lv_has ls 2 [(0, .ref r)] := hl
  refine lv_aload_n hx hb dX1_init_0 rfl (lv_at hl 0 rfl) ?_
  refine W.objInit hx hb hown (hts (.methodLink RX1 3 objectInit) (by decide +kernel)) (hts (.instanceMethod objectInit) (by decide +kernel)) (hts (.code objectInit ⟨#[0xb1]⟩ 1 none) (by decide +kernel)) rfl (by rw [hml]; exact hl.1) rfl dX1_init_1 (Nat.le_of_ble_eq_true rfl) (Nat.le_of_ble_eq_true rfl) ?_
  refine W.eq (g2 := F0 m 4 ls []) rfl ?_
  refine lv_aload_n hx hb dX1_init_4 rfl (lv_at hl 0 rfl) ?_
  refine lv_bipush (v := 8) hx hb dX1_init_5 (by decide) ?_
  refine va_newq hx hb hown (hts (.classLink RX1 9 RX0) (by decide +kernel)) hO hK hP hD hS hA (n := 8) (N' := 8) (by decide) (by decide) (by decide) (Nat.le_of_ble_eq_true rfl) (Nat.le_of_ble_eq_true rfl) dX1_init_7 (fun la cA H hK hP hD hS => ?_)
  have hK : va_K D vwCl [(cA, .object "VinegarLoft$Barrel")] s := hK
  have hP : va_P D vwCl [(r, .inr (1, [.null, .int 0, .int 0, .int 0, .double 0])), (la, .inl (cA, (8, .inr (.inr (.inr (.inr (fun _ => none)))))))] H := hP
  have hD : va_D A [(r, .inr (1, [.null, .int 0, .int 0, .int 0, .double 0])), (la, .inl (cA, (8, .inr (.inr (.inr (.inr (fun _ => none)))))))] := hD
  refine va_putF (D := D) (ci := 1) (v := .ref la) (ty := .array (.object "VinegarLoft$Barrel")) (C := RX1) (T := TX1) (N := 5) hx hb hts (by decide +kernel) tyX1 tyX1_ok nmX1 hown hK hP hD hS (0) rfl rfl 0 (by decide) (hts (.fieldLink RX1 11 "VinegarLoft$Row" "line" "[LVinegarLoft$Barrel;") (by decide +kernel)) (fun _ h9 => h9) rfl hin rfl (by decide +kernel) rfl rfl (Nat.le_of_ble_eq_true rfl) dX1_init_10 (fun H locs hP hD hS => ?_)
  have hP : va_P D vwCl [(r, .inr (1, [.ref la, .int 0, .int 0, .int 0, .double 0])), (la, .inl (cA, (8, .inr (.inr (.inr (.inr (fun _ => none)))))))] H := hP
  have hD : va_D A [(r, .inr (1, [.ref la, .int 0, .int 0, .int 0, .double 0])), (la, .inl (cA, (8, .inr (.inr (.inr (.inr (fun _ => none)))))))] := hD
  refine lv_iconst (v := 0) hx hb dX1_init_13 (by decide) ?_
  refine lv_istore_n (lv' := [(1, .int 0), (0, .ref r)]) hx hb dX1_init_14 rfl hl (by decide) rfl (fun ls hl => ?_)
  refine lv_iload_n hx hb dX1_init_15 rfl (lv_at hl 0 rfl) ?_
  refine lv_aload_n hx hb dX1_init_16 rfl (lv_at hl 1 rfl) ?_
  refine va_get (D := D) (ci := 1) (v := .ref la) (C := RX1) (T := TX1) (N := 5) hx hb hts (by decide +kernel) hown hK hP (0) rfl rfl 0 (by decide) (hts (.fieldLink RX1 11 "VinegarLoft$Row" "line" "[LVinegarLoft$Barrel;") (by decide +kernel)) (fun _ h9 => h9) rfl dX1_init_17 ?_
  refine va_alen hx hb hK hP 1 0 (v := 8) rfl rfl rfl dX1_init_20 ?_
  refine lv_icmp_ge (tgt := 43) hx hb dX1_init_21 (by decide) (fun c21 => absurd c21 (by decide)) (fun c21 => ?_)
  refine lv_aload_n hx hb dX1_init_24 rfl (lv_at hl 1 rfl) ?_
  refine va_get (D := D) (ci := 1) (v := .ref la) (C := RX1) (T := TX1) (N := 5) hx hb hts (by decide +kernel) hown hK hP (0) rfl rfl 0 (by decide) (hts (.fieldLink RX1 11 "VinegarLoft$Row" "line" "[LVinegarLoft$Barrel;") (by decide +kernel)) (fun _ h9 => h9) rfl dX1_init_25 ?_
  refine lv_iload_n hx hb dX1_init_28 rfl (lv_at hl 0 rfl) ?_
  refine va_new (ci := 0) (fs := [.int 0, .int 0, .double 0, .double 0, .double 0, .double 0]) (C := RX0) (T := TX0) (N := 6) hx hb hts (by decide +kernel) tyX0 tyX0_ok hown (hts (.classLink RX1 9 RX0) (by decide +kernel)) (hts (.instantiable RX0 6) (by decide +kernel)) (hts (.initialized RX0) (by decide +kernel)) hK hP hD hS hA rfl (fun j hj => by rcases (show j = 0 ∨ j = 1 ∨ j = 2 ∨ j = 3 ∨ j = 4 ∨ j = 5 by omega) with rfl | rfl | rfl | rfl | rfl | rfl <;> rfl) (Nat.le_of_ble_eq_true rfl) (Nat.le_of_ble_eq_true rfl) dX1_init_29 (fun b0 H hP hD hS => ?_)
  have hP : va_P D vwCl [(r, .inr (1, [.ref la, .int 0, .int 0, .int 0, .double 0])), (la, .inl (cA, (8, .inr (.inr (.inr (.inr (fun _ => none))))))), (b0, .inr (0, [.int 0, .int 0, .double 0, .double 0, .double 0, .double 0]))] H := hP
  have hD : va_D A [(r, .inr (1, [.ref la, .int 0, .int 0, .int 0, .double 0])), (la, .inl (cA, (8, .inr (.inr (.inr (.inr (fun _ => none))))))), (b0, .inr (0, [.int 0, .int 0, .double 0, .double 0, .double 0, .double 0]))] := hD
  refine lv_dup hx hb dX1_init_32 rfl ?_
  refine ko_v (k := 2) (va_runIN (As := []) (rest := [.ref b0, .int 0, .ref la]) ⟨hx, hb, hml, hown, hts⟩ (metX0_init l D H.size b0 0 0 0 0 0 0) ⟨va_cnB 0 hts gX1_init_X0_init_n17 rfl rfl rfl hNw (hts (.initialized RX0) (by decide +kernel)) (by decide +kernel) ⟨Nat.le_of_ble_eq_true rfl, Nat.le_of_ble_eq_true rfl⟩, rfl, hts (.instanceMethod yX0_init) (by decide +kernel)⟩ (pmS (vj_oP (k := 2) rfl hP) (hK.sub [] rfl) (vj_oD (k := 2) rfl hD)) rfl rfl hl.1 rfl (lv_room (Nat.le_of_ble_eq_true rfl)) dX1_init_33 ⟨Nat.le_of_ble_eq_true rfl, Nat.le_of_ble_eq_true rfl⟩) rfl hP hD hS hA (fun H locs hP hD hS => ?_)
  have hP : va_P D vwCl [(r, .inr (1, [.ref la, .int 0, .int 0, .int 0, .double 0])), (la, .inl (cA, (8, .inr (.inr (.inr (.inr (fun _ => none))))))), (b0, .inr (0, [.int 0, .int 0, .double 0, .double 0, .double 0, .double 0]))] H := hP
  have hD : va_D A [(r, .inr (1, [.ref la, .int 0, .int 0, .int 0, .double 0])), (la, .inl (cA, (8, .inr (.inr (.inr (.inr (fun _ => none))))))), (b0, .inr (0, [.int 0, .int 0, .double 0, .double 0, .double 0, .double 0]))] := hD
  refine va_astq hx hb hK hP hD hS 1 0 2 0 rfl (r := (RX0, TX0, 6)) rfl rfl rfl (vp_in_nI (n := 0) (by decide) (by decide)) dX1_init_36 (fun H locs hP hD hS => ?_)
  have hP : va_P D vwCl [(r, .inr (1, [.ref la, .int 0, .int 0, .int 0, .double 0])), (la, .inl (cA, (8, .inr (.inr (.inr (.inr (va_up (fun _ => none) 0 (some b0)))))))), (b0, .inr (0, [.int 0, .int 0, .double 0, .double 0, .double 0, .double 0]))] H := hP
  have hD : va_D A [(r, .inr (1, [.ref la, .int 0, .int 0, .int 0, .double 0])), (la, .inl (cA, (8, .inr (.inr (.inr (.inr (va_up (fun _ => none) 0 (some b0)))))))), (b0, .inr (0, [.int 0, .int 0, .double 0, .double 0, .double 0, .double 0]))] := hD
  refine lv_iinc (v := 1) (lv' := [(1, .int 1), (0, .ref r)]) hx hb dX1_init_37 hl (k := 0) rfl rfl (by decide) rfl (fun ls hl => ?_)
  refine lv_goto (tgt := 15) hx hb dX1_init_40 (by decide) ?_
  refine lv_iload_n hx hb dX1_init_15 rfl (lv_at hl 0 rfl) ?_
  refine lv_aload_n hx hb dX1_init_16 rfl (lv_at hl 1 rfl) ?_
  refine va_get (D := D) (ci := 1) (v := .ref la) (C := RX1) (T := TX1) (N := 5) hx hb hts (by decide +kernel) hown hK hP (0) rfl rfl 0 (by decide) (hts (.fieldLink RX1 11 "VinegarLoft$Row" "line" "[LVinegarLoft$Barrel;") (by decide +kernel)) (fun _ h9 => h9) rfl dX1_init_17 ?_
  refine va_alen hx hb hK hP 1 0 (v := 8) rfl rfl rfl dX1_init_20 ?_
  refine lv_icmp_ge (tgt := 43) hx hb dX1_init_21 (by decide) (fun c21 => absurd c21 (by decide)) (fun c21 => ?_)
  refine lv_aload_n hx hb dX1_init_24 rfl (lv_at hl 1 rfl) ?_
  refine va_get (D := D) (ci := 1) (v := .ref la) (C := RX1) (T := TX1) (N := 5) hx hb hts (by decide +kernel) hown hK hP (0) rfl rfl 0 (by decide) (hts (.fieldLink RX1 11 "VinegarLoft$Row" "line" "[LVinegarLoft$Barrel;") (by decide +kernel)) (fun _ h9 => h9) rfl dX1_init_25 ?_
  refine lv_iload_n hx hb dX1_init_28 rfl (lv_at hl 0 rfl) ?_
  refine va_new (ci := 0) (fs := [.int 0, .int 0, .double 0, .double 0, .double 0, .double 0]) (C := RX0) (T := TX0) (N := 6) hx hb hts (by decide +kernel) tyX0 tyX0_ok hown (hts (.classLink RX1 9 RX0) (by decide +kernel)) (hts (.instantiable RX0 6) (by decide +kernel)) (hts (.initialized RX0) (by decide +kernel)) hK hP hD hS hA rfl (fun j hj => by rcases (show j = 0 ∨ j = 1 ∨ j = 2 ∨ j = 3 ∨ j = 4 ∨ j = 5 by omega) with rfl | rfl | rfl | rfl | rfl | rfl <;> rfl) (Nat.le_of_ble_eq_true rfl) (Nat.le_of_ble_eq_true rfl) dX1_init_29 (fun b1 H hP hD hS => ?_)
  have hP : va_P D vwCl [(r, .inr (1, [.ref la, .int 0, .int 0, .int 0, .double 0])), (la, .inl (cA, (8, .inr (.inr (.inr (.inr (va_up (fun _ => none) 0 (some b0)))))))), (b0, .inr (0, [.int 0, .int 0, .double 0, .double 0, .double 0, .double 0])), (b1, .inr (0, [.int 0, .int 0, .double 0, .double 0, .double 0, .double 0]))] H := hP
  have hD : va_D A [(r, .inr (1, [.ref la, .int 0, .int 0, .int 0, .double 0])), (la, .inl (cA, (8, .inr (.inr (.inr (.inr (va_up (fun _ => none) 0 (some b0)))))))), (b0, .inr (0, [.int 0, .int 0, .double 0, .double 0, .double 0, .double 0])), (b1, .inr (0, [.int 0, .int 0, .double 0, .double 0, .double 0, .double 0]))] := hD
  refine lv_dup hx hb dX1_init_32 rfl ?_
  refine ko_v (k := 3) (va_runIN (As := []) (rest := [.ref b1, .int 1, .ref la]) ⟨hx, hb, hml, hown, hts⟩ (metX0_init l D H.size b1 0 0 0 0 0 0) ⟨va_cnB 0 hts gX1_init_X0_init_n17 rfl rfl rfl hNw (hts (.initialized RX0) (by decide +kernel)) (by decide +kernel) ⟨Nat.le_of_ble_eq_true rfl, Nat.le_of_ble_eq_true rfl⟩, rfl, hts (.instanceMethod yX0_init) (by decide +kernel)⟩ (pmS (vj_oP (k := 3) rfl hP) (hK.sub [] rfl) (vj_oD (k := 3) rfl hD)) rfl rfl hl.1 rfl (lv_room (Nat.le_of_ble_eq_true rfl)) dX1_init_33 ⟨Nat.le_of_ble_eq_true rfl, Nat.le_of_ble_eq_true rfl⟩) rfl hP hD hS hA (fun H locs hP hD hS => ?_)
  have hP : va_P D vwCl [(r, .inr (1, [.ref la, .int 0, .int 0, .int 0, .double 0])), (la, .inl (cA, (8, .inr (.inr (.inr (.inr (va_up (fun _ => none) 0 (some b0)))))))), (b0, .inr (0, [.int 0, .int 0, .double 0, .double 0, .double 0, .double 0])), (b1, .inr (0, [.int 0, .int 0, .double 0, .double 0, .double 0, .double 0]))] H := hP
  have hD : va_D A [(r, .inr (1, [.ref la, .int 0, .int 0, .int 0, .double 0])), (la, .inl (cA, (8, .inr (.inr (.inr (.inr (va_up (fun _ => none) 0 (some b0)))))))), (b0, .inr (0, [.int 0, .int 0, .double 0, .double 0, .double 0, .double 0])), (b1, .inr (0, [.int 0, .int 0, .double 0, .double 0, .double 0, .double 0]))] := hD
  refine va_astq hx hb hK hP hD hS 1 0 3 0 rfl (r := (RX0, TX0, 6)) rfl rfl rfl (vp_in_nI (n := 1) (by decide) (by decide)) dX1_init_36 (fun H locs hP hD hS => ?_)
  have hP : va_P D vwCl [(r, .inr (1, [.ref la, .int 0, .int 0, .int 0, .double 0])), (la, .inl (cA, (8, .inr (.inr (.inr (.inr (va_up (va_up (fun _ => none) 0 (some b0)) 1 (some b1)))))))), (b0, .inr (0, [.int 0, .int 0, .double 0, .double 0, .double 0, .double 0])), (b1, .inr (0, [.int 0, .int 0, .double 0, .double 0, .double 0, .double 0]))] H := hP
  have hD : va_D A [(r, .inr (1, [.ref la, .int 0, .int 0, .int 0, .double 0])), (la, .inl (cA, (8, .inr (.inr (.inr (.inr (va_up (va_up (fun _ => none) 0 (some b0)) 1 (some b1)))))))), (b0, .inr (0, [.int 0, .int 0, .double 0, .double 0, .double 0, .double 0])), (b1, .inr (0, [.int 0, .int 0, .double 0, .double 0, .double 0, .double 0]))] := hD
  refine lv_iinc (v := 2) (lv' := [(1, .int 2), (0, .ref r)]) hx hb dX1_init_37 hl (k := 0) rfl rfl (by decide) rfl (fun ls hl => ?_)
  refine lv_goto (tgt := 15) hx hb dX1_init_40 (by decide) ?_
  refine lv_iload_n hx hb dX1_init_15 rfl (lv_at hl 0 rfl) ?_
  refine lv_aload_n hx hb dX1_init_16 rfl (lv_at hl 1 rfl) ?_
  refine va_get (D := D) (ci := 1) (v := .ref la) (C := RX1) (T := TX1) (N := 5) hx hb hts (by decide +kernel) hown hK hP (0) rfl rfl 0 (by decide) (hts (.fieldLink RX1 11 "VinegarLoft$Row" "line" "[LVinegarLoft$Barrel;") (by decide +kernel)) (fun _ h9 => h9) rfl dX1_init_17 ?_
  refine va_alen hx hb hK hP 1 0 (v := 8) rfl rfl rfl dX1_init_20 ?_
  refine lv_icmp_ge (tgt := 43) hx hb dX1_init_21 (by decide) (fun c21 => absurd c21 (by decide)) (fun c21 => ?_)
  refine lv_aload_n hx hb dX1_init_24 rfl (lv_at hl 1 rfl) ?_
  refine va_get (D := D) (ci := 1) (v := .ref la) (C := RX1) (T := TX1) (N := 5) hx hb hts (by decide +kernel) hown hK hP (0) rfl rfl 0 (by decide) (hts (.fieldLink RX1 11 "VinegarLoft$Row" "line" "[LVinegarLoft$Barrel;") (by decide +kernel)) (fun _ h9 => h9) rfl dX1_init_25 ?_
  refine lv_iload_n hx hb dX1_init_28 rfl (lv_at hl 0 rfl) ?_
  refine va_new (ci := 0) (fs := [.int 0, .int 0, .double 0, .double 0, .double 0, .double 0]) (C := RX0) (T := TX0) (N := 6) hx hb hts (by decide +kernel) tyX0 tyX0_ok hown (hts (.classLink RX1 9 RX0) (by decide +kernel)) (hts (.instantiable RX0 6) (by decide +kernel)) (hts (.initialized RX0) (by decide +kernel)) hK hP hD hS hA rfl (fun j hj => by rcases (show j = 0 ∨ j = 1 ∨ j = 2 ∨ j = 3 ∨ j = 4 ∨ j = 5 by omega) with rfl | rfl | rfl | rfl | rfl | rfl <;> rfl) (Nat.le_of_ble_eq_true rfl) (Nat.le_of_ble_eq_true rfl) dX1_init_29 (fun b2 H hP hD hS => ?_)
  have hP : va_P D vwCl [(r, .inr (1, [.ref la, .int 0, .int 0, .int 0, .double 0])), (la, .inl (cA, (8, .inr (.inr (.inr (.inr (va_up (va_up (fun _ => none) 0 (some b0)) 1 (some b1)))))))), (b0, .inr (0, [.int 0, .int 0, .double 0, .double 0, .double 0, .double 0])), (b1, .inr (0, [.int 0, .int 0, .double 0, .double 0, .double 0, .double 0])), (b2, .inr (0, [.int 0, .int 0, .double 0, .double 0, .double 0, .double 0]))] H := hP
  have hD : va_D A [(r, .inr (1, [.ref la, .int 0, .int 0, .int 0, .double 0])), (la, .inl (cA, (8, .inr (.inr (.inr (.inr (va_up (va_up (fun _ => none) 0 (some b0)) 1 (some b1)))))))), (b0, .inr (0, [.int 0, .int 0, .double 0, .double 0, .double 0, .double 0])), (b1, .inr (0, [.int 0, .int 0, .double 0, .double 0, .double 0, .double 0])), (b2, .inr (0, [.int 0, .int 0, .double 0, .double 0, .double 0, .double 0]))] := hD
  refine lv_dup hx hb dX1_init_32 rfl ?_
  refine ko_v (k := 4) (va_runIN (As := []) (rest := [.ref b2, .int 2, .ref la]) ⟨hx, hb, hml, hown, hts⟩ (metX0_init l D H.size b2 0 0 0 0 0 0) ⟨va_cnB 0 hts gX1_init_X0_init_n17 rfl rfl rfl hNw (hts (.initialized RX0) (by decide +kernel)) (by decide +kernel) ⟨Nat.le_of_ble_eq_true rfl, Nat.le_of_ble_eq_true rfl⟩, rfl, hts (.instanceMethod yX0_init) (by decide +kernel)⟩ (pmS (vj_oP (k := 4) rfl hP) (hK.sub [] rfl) (vj_oD (k := 4) rfl hD)) rfl rfl hl.1 rfl (lv_room (Nat.le_of_ble_eq_true rfl)) dX1_init_33 ⟨Nat.le_of_ble_eq_true rfl, Nat.le_of_ble_eq_true rfl⟩) rfl hP hD hS hA (fun H locs hP hD hS => ?_)
  have hP : va_P D vwCl [(r, .inr (1, [.ref la, .int 0, .int 0, .int 0, .double 0])), (la, .inl (cA, (8, .inr (.inr (.inr (.inr (va_up (va_up (fun _ => none) 0 (some b0)) 1 (some b1)))))))), (b0, .inr (0, [.int 0, .int 0, .double 0, .double 0, .double 0, .double 0])), (b1, .inr (0, [.int 0, .int 0, .double 0, .double 0, .double 0, .double 0])), (b2, .inr (0, [.int 0, .int 0, .double 0, .double 0, .double 0, .double 0]))] H := hP
  have hD : va_D A [(r, .inr (1, [.ref la, .int 0, .int 0, .int 0, .double 0])), (la, .inl (cA, (8, .inr (.inr (.inr (.inr (va_up (va_up (fun _ => none) 0 (some b0)) 1 (some b1)))))))), (b0, .inr (0, [.int 0, .int 0, .double 0, .double 0, .double 0, .double 0])), (b1, .inr (0, [.int 0, .int 0, .double 0, .double 0, .double 0, .double 0])), (b2, .inr (0, [.int 0, .int 0, .double 0, .double 0, .double 0, .double 0]))] := hD
  refine va_astq hx hb hK hP hD hS 1 0 4 0 rfl (r := (RX0, TX0, 6)) rfl rfl rfl (vp_in_nI (n := 2) (by decide) (by decide)) dX1_init_36 (fun H locs hP hD hS => ?_)
  have hP : va_P D vwCl [(r, .inr (1, [.ref la, .int 0, .int 0, .int 0, .double 0])), (la, .inl (cA, (8, .inr (.inr (.inr (.inr (va_up (va_up (va_up (fun _ => none) 0 (some b0)) 1 (some b1)) 2 (some b2)))))))), (b0, .inr (0, [.int 0, .int 0, .double 0, .double 0, .double 0, .double 0])), (b1, .inr (0, [.int 0, .int 0, .double 0, .double 0, .double 0, .double 0])), (b2, .inr (0, [.int 0, .int 0, .double 0, .double 0, .double 0, .double 0]))] H := hP
  have hD : va_D A [(r, .inr (1, [.ref la, .int 0, .int 0, .int 0, .double 0])), (la, .inl (cA, (8, .inr (.inr (.inr (.inr (va_up (va_up (va_up (fun _ => none) 0 (some b0)) 1 (some b1)) 2 (some b2)))))))), (b0, .inr (0, [.int 0, .int 0, .double 0, .double 0, .double 0, .double 0])), (b1, .inr (0, [.int 0, .int 0, .double 0, .double 0, .double 0, .double 0])), (b2, .inr (0, [.int 0, .int 0, .double 0, .double 0, .double 0, .double 0]))] := hD
  refine lv_iinc (v := 3) (lv' := [(1, .int 3), (0, .ref r)]) hx hb dX1_init_37 hl (k := 0) rfl rfl (by decide) rfl (fun ls hl => ?_)
  refine lv_goto (tgt := 15) hx hb dX1_init_40 (by decide) ?_
  refine lv_iload_n hx hb dX1_init_15 rfl (lv_at hl 0 rfl) ?_
  refine lv_aload_n hx hb dX1_init_16 rfl (lv_at hl 1 rfl) ?_
  refine va_get (D := D) (ci := 1) (v := .ref la) (C := RX1) (T := TX1) (N := 5) hx hb hts (by decide +kernel) hown hK hP (0) rfl rfl 0 (by decide) (hts (.fieldLink RX1 11 "VinegarLoft$Row" "line" "[LVinegarLoft$Barrel;") (by decide +kernel)) (fun _ h9 => h9) rfl dX1_init_17 ?_
  refine va_alen hx hb hK hP 1 0 (v := 8) rfl rfl rfl dX1_init_20 ?_
  refine lv_icmp_ge (tgt := 43) hx hb dX1_init_21 (by decide) (fun c21 => absurd c21 (by decide)) (fun c21 => ?_)
  refine lv_aload_n hx hb dX1_init_24 rfl (lv_at hl 1 rfl) ?_
  refine va_get (D := D) (ci := 1) (v := .ref la) (C := RX1) (T := TX1) (N := 5) hx hb hts (by decide +kernel) hown hK hP (0) rfl rfl 0 (by decide) (hts (.fieldLink RX1 11 "VinegarLoft$Row" "line" "[LVinegarLoft$Barrel;") (by decide +kernel)) (fun _ h9 => h9) rfl dX1_init_25 ?_
  refine lv_iload_n hx hb dX1_init_28 rfl (lv_at hl 0 rfl) ?_
  refine va_new (ci := 0) (fs := [.int 0, .int 0, .double 0, .double 0, .double 0, .double 0]) (C := RX0) (T := TX0) (N := 6) hx hb hts (by decide +kernel) tyX0 tyX0_ok hown (hts (.classLink RX1 9 RX0) (by decide +kernel)) (hts (.instantiable RX0 6) (by decide +kernel)) (hts (.initialized RX0) (by decide +kernel)) hK hP hD hS hA rfl (fun j hj => by rcases (show j = 0 ∨ j = 1 ∨ j = 2 ∨ j = 3 ∨ j = 4 ∨ j = 5 by omega) with rfl | rfl | rfl | rfl | rfl | rfl <;> rfl) (Nat.le_of_ble_eq_true rfl) (Nat.le_of_ble_eq_true rfl) dX1_init_29 (fun b3 H hP hD hS => ?_)
  have hP : va_P D vwCl [(r, .inr (1, [.ref la, .int 0, .int 0, .int 0, .double 0])), (la, .inl (cA, (8, .inr (.inr (.inr (.inr (va_up (va_up (va_up (fun _ => none) 0 (some b0)) 1 (some b1)) 2 (some b2)))))))), (b0, .inr (0, [.int 0, .int 0, .double 0, .double 0, .double 0, .double 0])), (b1, .inr (0, [.int 0, .int 0, .double 0, .double 0, .double 0, .double 0])), (b2, .inr (0, [.int 0, .int 0, .double 0, .double 0, .double 0, .double 0])), (b3, .inr (0, [.int 0, .int 0, .double 0, .double 0, .double 0, .double 0]))] H := hP
  have hD : va_D A [(r, .inr (1, [.ref la, .int 0, .int 0, .int 0, .double 0])), (la, .inl (cA, (8, .inr (.inr (.inr (.inr (va_up (va_up (va_up (fun _ => none) 0 (some b0)) 1 (some b1)) 2 (some b2)))))))), (b0, .inr (0, [.int 0, .int 0, .double 0, .double 0, .double 0, .double 0])), (b1, .inr (0, [.int 0, .int 0, .double 0, .double 0, .double 0, .double 0])), (b2, .inr (0, [.int 0, .int 0, .double 0, .double 0, .double 0, .double 0])), (b3, .inr (0, [.int 0, .int 0, .double 0, .double 0, .double 0, .double 0]))] := hD
  refine lv_dup hx hb dX1_init_32 rfl ?_
  refine ko_v (k := 5) (va_runIN (As := []) (rest := [.ref b3, .int 3, .ref la]) ⟨hx, hb, hml, hown, hts⟩ (metX0_init l D H.size b3 0 0 0 0 0 0) ⟨va_cnB 0 hts gX1_init_X0_init_n17 rfl rfl rfl hNw (hts (.initialized RX0) (by decide +kernel)) (by decide +kernel) ⟨Nat.le_of_ble_eq_true rfl, Nat.le_of_ble_eq_true rfl⟩, rfl, hts (.instanceMethod yX0_init) (by decide +kernel)⟩ (pmS (vj_oP (k := 5) rfl hP) (hK.sub [] rfl) (vj_oD (k := 5) rfl hD)) rfl rfl hl.1 rfl (lv_room (Nat.le_of_ble_eq_true rfl)) dX1_init_33 ⟨Nat.le_of_ble_eq_true rfl, Nat.le_of_ble_eq_true rfl⟩) rfl hP hD hS hA (fun H locs hP hD hS => ?_)
  have hP : va_P D vwCl [(r, .inr (1, [.ref la, .int 0, .int 0, .int 0, .double 0])), (la, .inl (cA, (8, .inr (.inr (.inr (.inr (va_up (va_up (va_up (fun _ => none) 0 (some b0)) 1 (some b1)) 2 (some b2)))))))), (b0, .inr (0, [.int 0, .int 0, .double 0, .double 0, .double 0, .double 0])), (b1, .inr (0, [.int 0, .int 0, .double 0, .double 0, .double 0, .double 0])), (b2, .inr (0, [.int 0, .int 0, .double 0, .double 0, .double 0, .double 0])), (b3, .inr (0, [.int 0, .int 0, .double 0, .double 0, .double 0, .double 0]))] H := hP
  have hD : va_D A [(r, .inr (1, [.ref la, .int 0, .int 0, .int 0, .double 0])), (la, .inl (cA, (8, .inr (.inr (.inr (.inr (va_up (va_up (va_up (fun _ => none) 0 (some b0)) 1 (some b1)) 2 (some b2)))))))), (b0, .inr (0, [.int 0, .int 0, .double 0, .double 0, .double 0, .double 0])), (b1, .inr (0, [.int 0, .int 0, .double 0, .double 0, .double 0, .double 0])), (b2, .inr (0, [.int 0, .int 0, .double 0, .double 0, .double 0, .double 0])), (b3, .inr (0, [.int 0, .int 0, .double 0, .double 0, .double 0, .double 0]))] := hD
  refine va_astq hx hb hK hP hD hS 1 0 5 0 rfl (r := (RX0, TX0, 6)) rfl rfl rfl (vp_in_nI (n := 3) (by decide) (by decide)) dX1_init_36 (fun H locs hP hD hS => ?_)
  have hP : va_P D vwCl [(r, .inr (1, [.ref la, .int 0, .int 0, .int 0, .double 0])), (la, .inl (cA, (8, .inr (.inr (.inr (.inr (va_up (va_up (va_up (va_up (fun _ => none) 0 (some b0)) 1 (some b1)) 2 (some b2)) 3 (some b3)))))))), (b0, .inr (0, [.int 0, .int 0, .double 0, .double 0, .double 0, .double 0])), (b1, .inr (0, [.int 0, .int 0, .double 0, .double 0, .double 0, .double 0])), (b2, .inr (0, [.int 0, .int 0, .double 0, .double 0, .double 0, .double 0])), (b3, .inr (0, [.int 0, .int 0, .double 0, .double 0, .double 0, .double 0]))] H := hP
  have hD : va_D A [(r, .inr (1, [.ref la, .int 0, .int 0, .int 0, .double 0])), (la, .inl (cA, (8, .inr (.inr (.inr (.inr (va_up (va_up (va_up (va_up (fun _ => none) 0 (some b0)) 1 (some b1)) 2 (some b2)) 3 (some b3)))))))), (b0, .inr (0, [.int 0, .int 0, .double 0, .double 0, .double 0, .double 0])), (b1, .inr (0, [.int 0, .int 0, .double 0, .double 0, .double 0, .double 0])), (b2, .inr (0, [.int 0, .int 0, .double 0, .double 0, .double 0, .double 0])), (b3, .inr (0, [.int 0, .int 0, .double 0, .double 0, .double 0, .double 0]))] := hD
  refine lv_iinc (v := 4) (lv' := [(1, .int 4), (0, .ref r)]) hx hb dX1_init_37 hl (k := 0) rfl rfl (by decide) rfl (fun ls hl => ?_)
  refine lv_goto (tgt := 15) hx hb dX1_init_40 (by decide) ?_
  refine lv_iload_n hx hb dX1_init_15 rfl (lv_at hl 0 rfl) ?_
  refine lv_aload_n hx hb dX1_init_16 rfl (lv_at hl 1 rfl) ?_
  refine va_get (D := D) (ci := 1) (v := .ref la) (C := RX1) (T := TX1) (N := 5) hx hb hts (by decide +kernel) hown hK hP (0) rfl rfl 0 (by decide) (hts (.fieldLink RX1 11 "VinegarLoft$Row" "line" "[LVinegarLoft$Barrel;") (by decide +kernel)) (fun _ h9 => h9) rfl dX1_init_17 ?_
  refine va_alen hx hb hK hP 1 0 (v := 8) rfl rfl rfl dX1_init_20 ?_
  refine lv_icmp_ge (tgt := 43) hx hb dX1_init_21 (by decide) (fun c21 => absurd c21 (by decide)) (fun c21 => ?_)
  refine lv_aload_n hx hb dX1_init_24 rfl (lv_at hl 1 rfl) ?_
  refine va_get (D := D) (ci := 1) (v := .ref la) (C := RX1) (T := TX1) (N := 5) hx hb hts (by decide +kernel) hown hK hP (0) rfl rfl 0 (by decide) (hts (.fieldLink RX1 11 "VinegarLoft$Row" "line" "[LVinegarLoft$Barrel;") (by decide +kernel)) (fun _ h9 => h9) rfl dX1_init_25 ?_
  refine lv_iload_n hx hb dX1_init_28 rfl (lv_at hl 0 rfl) ?_
  refine va_new (ci := 0) (fs := [.int 0, .int 0, .double 0, .double 0, .double 0, .double 0]) (C := RX0) (T := TX0) (N := 6) hx hb hts (by decide +kernel) tyX0 tyX0_ok hown (hts (.classLink RX1 9 RX0) (by decide +kernel)) (hts (.instantiable RX0 6) (by decide +kernel)) (hts (.initialized RX0) (by decide +kernel)) hK hP hD hS hA rfl (fun j hj => by rcases (show j = 0 ∨ j = 1 ∨ j = 2 ∨ j = 3 ∨ j = 4 ∨ j = 5 by omega) with rfl | rfl | rfl | rfl | rfl | rfl <;> rfl) (Nat.le_of_ble_eq_true rfl) (Nat.le_of_ble_eq_true rfl) dX1_init_29 (fun b4 H hP hD hS => ?_)
  have hP : va_P D vwCl [(r, .inr (1, [.ref la, .int 0, .int 0, .int 0, .double 0])), (la, .inl (cA, (8, .inr (.inr (.inr (.inr (va_up (va_up (va_up (va_up (fun _ => none) 0 (some b0)) 1 (some b1)) 2 (some b2)) 3 (some b3)))))))), (b0, .inr (0, [.int 0, .int 0, .double 0, .double 0, .double 0, .double 0])), (b1, .inr (0, [.int 0, .int 0, .double 0, .double 0, .double 0, .double 0])), (b2, .inr (0, [.int 0, .int 0, .double 0, .double 0, .double 0, .double 0])), (b3, .inr (0, [.int 0, .int 0, .double 0, .double 0, .double 0, .double 0])), (b4, .inr (0, [.int 0, .int 0, .double 0, .double 0, .double 0, .double 0]))] H := hP
  have hD : va_D A [(r, .inr (1, [.ref la, .int 0, .int 0, .int 0, .double 0])), (la, .inl (cA, (8, .inr (.inr (.inr (.inr (va_up (va_up (va_up (va_up (fun _ => none) 0 (some b0)) 1 (some b1)) 2 (some b2)) 3 (some b3)))))))), (b0, .inr (0, [.int 0, .int 0, .double 0, .double 0, .double 0, .double 0])), (b1, .inr (0, [.int 0, .int 0, .double 0, .double 0, .double 0, .double 0])), (b2, .inr (0, [.int 0, .int 0, .double 0, .double 0, .double 0, .double 0])), (b3, .inr (0, [.int 0, .int 0, .double 0, .double 0, .double 0, .double 0])), (b4, .inr (0, [.int 0, .int 0, .double 0, .double 0, .double 0, .double 0]))] := hD
  refine lv_dup hx hb dX1_init_32 rfl ?_
  refine ko_v (k := 6) (va_runIN (As := []) (rest := [.ref b4, .int 4, .ref la]) ⟨hx, hb, hml, hown, hts⟩ (metX0_init l D H.size b4 0 0 0 0 0 0) ⟨va_cnB 0 hts gX1_init_X0_init_n17 rfl rfl rfl hNw (hts (.initialized RX0) (by decide +kernel)) (by decide +kernel) ⟨Nat.le_of_ble_eq_true rfl, Nat.le_of_ble_eq_true rfl⟩, rfl, hts (.instanceMethod yX0_init) (by decide +kernel)⟩ (pmS (vj_oP (k := 6) rfl hP) (hK.sub [] rfl) (vj_oD (k := 6) rfl hD)) rfl rfl hl.1 rfl (lv_room (Nat.le_of_ble_eq_true rfl)) dX1_init_33 ⟨Nat.le_of_ble_eq_true rfl, Nat.le_of_ble_eq_true rfl⟩) rfl hP hD hS hA (fun H locs hP hD hS => ?_)
  have hP : va_P D vwCl [(r, .inr (1, [.ref la, .int 0, .int 0, .int 0, .double 0])), (la, .inl (cA, (8, .inr (.inr (.inr (.inr (va_up (va_up (va_up (va_up (fun _ => none) 0 (some b0)) 1 (some b1)) 2 (some b2)) 3 (some b3)))))))), (b0, .inr (0, [.int 0, .int 0, .double 0, .double 0, .double 0, .double 0])), (b1, .inr (0, [.int 0, .int 0, .double 0, .double 0, .double 0, .double 0])), (b2, .inr (0, [.int 0, .int 0, .double 0, .double 0, .double 0, .double 0])), (b3, .inr (0, [.int 0, .int 0, .double 0, .double 0, .double 0, .double 0])), (b4, .inr (0, [.int 0, .int 0, .double 0, .double 0, .double 0, .double 0]))] H := hP
  have hD : va_D A [(r, .inr (1, [.ref la, .int 0, .int 0, .int 0, .double 0])), (la, .inl (cA, (8, .inr (.inr (.inr (.inr (va_up (va_up (va_up (va_up (fun _ => none) 0 (some b0)) 1 (some b1)) 2 (some b2)) 3 (some b3)))))))), (b0, .inr (0, [.int 0, .int 0, .double 0, .double 0, .double 0, .double 0])), (b1, .inr (0, [.int 0, .int 0, .double 0, .double 0, .double 0, .double 0])), (b2, .inr (0, [.int 0, .int 0, .double 0, .double 0, .double 0, .double 0])), (b3, .inr (0, [.int 0, .int 0, .double 0, .double 0, .double 0, .double 0])), (b4, .inr (0, [.int 0, .int 0, .double 0, .double 0, .double 0, .double 0]))] := hD
  refine va_astq hx hb hK hP hD hS 1 0 6 0 rfl (r := (RX0, TX0, 6)) rfl rfl rfl (vp_in_nI (n := 4) (by decide) (by decide)) dX1_init_36 (fun H locs hP hD hS => ?_)
  have hP : va_P D vwCl [(r, .inr (1, [.ref la, .int 0, .int 0, .int 0, .double 0])), (la, .inl (cA, (8, .inr (.inr (.inr (.inr (va_up (va_up (va_up (va_up (va_up (fun _ => none) 0 (some b0)) 1 (some b1)) 2 (some b2)) 3 (some b3)) 4 (some b4)))))))), (b0, .inr (0, [.int 0, .int 0, .double 0, .double 0, .double 0, .double 0])), (b1, .inr (0, [.int 0, .int 0, .double 0, .double 0, .double 0, .double 0])), (b2, .inr (0, [.int 0, .int 0, .double 0, .double 0, .double 0, .double 0])), (b3, .inr (0, [.int 0, .int 0, .double 0, .double 0, .double 0, .double 0])), (b4, .inr (0, [.int 0, .int 0, .double 0, .double 0, .double 0, .double 0]))] H := hP
  have hD : va_D A [(r, .inr (1, [.ref la, .int 0, .int 0, .int 0, .double 0])), (la, .inl (cA, (8, .inr (.inr (.inr (.inr (va_up (va_up (va_up (va_up (va_up (fun _ => none) 0 (some b0)) 1 (some b1)) 2 (some b2)) 3 (some b3)) 4 (some b4)))))))), (b0, .inr (0, [.int 0, .int 0, .double 0, .double 0, .double 0, .double 0])), (b1, .inr (0, [.int 0, .int 0, .double 0, .double 0, .double 0, .double 0])), (b2, .inr (0, [.int 0, .int 0, .double 0, .double 0, .double 0, .double 0])), (b3, .inr (0, [.int 0, .int 0, .double 0, .double 0, .double 0, .double 0])), (b4, .inr (0, [.int 0, .int 0, .double 0, .double 0, .double 0, .double 0]))] := hD
  refine lv_iinc (v := 5) (lv' := [(1, .int 5), (0, .ref r)]) hx hb dX1_init_37 hl (k := 0) rfl rfl (by decide) rfl (fun ls hl => ?_)
  refine lv_goto (tgt := 15) hx hb dX1_init_40 (by decide) ?_
  refine lv_iload_n hx hb dX1_init_15 rfl (lv_at hl 0 rfl) ?_
  refine lv_aload_n hx hb dX1_init_16 rfl (lv_at hl 1 rfl) ?_
  refine va_get (D := D) (ci := 1) (v := .ref la) (C := RX1) (T := TX1) (N := 5) hx hb hts (by decide +kernel) hown hK hP (0) rfl rfl 0 (by decide) (hts (.fieldLink RX1 11 "VinegarLoft$Row" "line" "[LVinegarLoft$Barrel;") (by decide +kernel)) (fun _ h9 => h9) rfl dX1_init_17 ?_
  refine va_alen hx hb hK hP 1 0 (v := 8) rfl rfl rfl dX1_init_20 ?_
  refine lv_icmp_ge (tgt := 43) hx hb dX1_init_21 (by decide) (fun c21 => absurd c21 (by decide)) (fun c21 => ?_)
  refine lv_aload_n hx hb dX1_init_24 rfl (lv_at hl 1 rfl) ?_
  refine va_get (D := D) (ci := 1) (v := .ref la) (C := RX1) (T := TX1) (N := 5) hx hb hts (by decide +kernel) hown hK hP (0) rfl rfl 0 (by decide) (hts (.fieldLink RX1 11 "VinegarLoft$Row" "line" "[LVinegarLoft$Barrel;") (by decide +kernel)) (fun _ h9 => h9) rfl dX1_init_25 ?_
  refine lv_iload_n hx hb dX1_init_28 rfl (lv_at hl 0 rfl) ?_
  refine va_new (ci := 0) (fs := [.int 0, .int 0, .double 0, .double 0, .double 0, .double 0]) (C := RX0) (T := TX0) (N := 6) hx hb hts (by decide +kernel) tyX0 tyX0_ok hown (hts (.classLink RX1 9 RX0) (by decide +kernel)) (hts (.instantiable RX0 6) (by decide +kernel)) (hts (.initialized RX0) (by decide +kernel)) hK hP hD hS hA rfl (fun j hj => by rcases (show j = 0 ∨ j = 1 ∨ j = 2 ∨ j = 3 ∨ j = 4 ∨ j = 5 by omega) with rfl | rfl | rfl | rfl | rfl | rfl <;> rfl) (Nat.le_of_ble_eq_true rfl) (Nat.le_of_ble_eq_true rfl) dX1_init_29 (fun b5 H hP hD hS => ?_)
  have hP : va_P D vwCl [(r, .inr (1, [.ref la, .int 0, .int 0, .int 0, .double 0])), (la, .inl (cA, (8, .inr (.inr (.inr (.inr (va_up (va_up (va_up (va_up (va_up (fun _ => none) 0 (some b0)) 1 (some b1)) 2 (some b2)) 3 (some b3)) 4 (some b4)))))))), (b0, .inr (0, [.int 0, .int 0, .double 0, .double 0, .double 0, .double 0])), (b1, .inr (0, [.int 0, .int 0, .double 0, .double 0, .double 0, .double 0])), (b2, .inr (0, [.int 0, .int 0, .double 0, .double 0, .double 0, .double 0])), (b3, .inr (0, [.int 0, .int 0, .double 0, .double 0, .double 0, .double 0])), (b4, .inr (0, [.int 0, .int 0, .double 0, .double 0, .double 0, .double 0])), (b5, .inr (0, [.int 0, .int 0, .double 0, .double 0, .double 0, .double 0]))] H := hP
  have hD : va_D A [(r, .inr (1, [.ref la, .int 0, .int 0, .int 0, .double 0])), (la, .inl (cA, (8, .inr (.inr (.inr (.inr (va_up (va_up (va_up (va_up (va_up (fun _ => none) 0 (some b0)) 1 (some b1)) 2 (some b2)) 3 (some b3)) 4 (some b4)))))))), (b0, .inr (0, [.int 0, .int 0, .double 0, .double 0, .double 0, .double 0])), (b1, .inr (0, [.int 0, .int 0, .double 0, .double 0, .double 0, .double 0])), (b2, .inr (0, [.int 0, .int 0, .double 0, .double 0, .double 0, .double 0])), (b3, .inr (0, [.int 0, .int 0, .double 0, .double 0, .double 0, .double 0])), (b4, .inr (0, [.int 0, .int 0, .double 0, .double 0, .double 0, .double 0])), (b5, .inr (0, [.int 0, .int 0, .double 0, .double 0, .double 0, .double 0]))] := hD
  refine lv_dup hx hb dX1_init_32 rfl ?_
  refine ko_v (k := 7) (va_runIN (As := []) (rest := [.ref b5, .int 5, .ref la]) ⟨hx, hb, hml, hown, hts⟩ (metX0_init l D H.size b5 0 0 0 0 0 0) ⟨va_cnB 0 hts gX1_init_X0_init_n17 rfl rfl rfl hNw (hts (.initialized RX0) (by decide +kernel)) (by decide +kernel) ⟨Nat.le_of_ble_eq_true rfl, Nat.le_of_ble_eq_true rfl⟩, rfl, hts (.instanceMethod yX0_init) (by decide +kernel)⟩ (pmS (vj_oP (k := 7) rfl hP) (hK.sub [] rfl) (vj_oD (k := 7) rfl hD)) rfl rfl hl.1 rfl (lv_room (Nat.le_of_ble_eq_true rfl)) dX1_init_33 ⟨Nat.le_of_ble_eq_true rfl, Nat.le_of_ble_eq_true rfl⟩) rfl hP hD hS hA (fun H locs hP hD hS => ?_)
  have hP : va_P D vwCl [(r, .inr (1, [.ref la, .int 0, .int 0, .int 0, .double 0])), (la, .inl (cA, (8, .inr (.inr (.inr (.inr (va_up (va_up (va_up (va_up (va_up (fun _ => none) 0 (some b0)) 1 (some b1)) 2 (some b2)) 3 (some b3)) 4 (some b4)))))))), (b0, .inr (0, [.int 0, .int 0, .double 0, .double 0, .double 0, .double 0])), (b1, .inr (0, [.int 0, .int 0, .double 0, .double 0, .double 0, .double 0])), (b2, .inr (0, [.int 0, .int 0, .double 0, .double 0, .double 0, .double 0])), (b3, .inr (0, [.int 0, .int 0, .double 0, .double 0, .double 0, .double 0])), (b4, .inr (0, [.int 0, .int 0, .double 0, .double 0, .double 0, .double 0])), (b5, .inr (0, [.int 0, .int 0, .double 0, .double 0, .double 0, .double 0]))] H := hP
  have hD : va_D A [(r, .inr (1, [.ref la, .int 0, .int 0, .int 0, .double 0])), (la, .inl (cA, (8, .inr (.inr (.inr (.inr (va_up (va_up (va_up (va_up (va_up (fun _ => none) 0 (some b0)) 1 (some b1)) 2 (some b2)) 3 (some b3)) 4 (some b4)))))))), (b0, .inr (0, [.int 0, .int 0, .double 0, .double 0, .double 0, .double 0])), (b1, .inr (0, [.int 0, .int 0, .double 0, .double 0, .double 0, .double 0])), (b2, .inr (0, [.int 0, .int 0, .double 0, .double 0, .double 0, .double 0])), (b3, .inr (0, [.int 0, .int 0, .double 0, .double 0, .double 0, .double 0])), (b4, .inr (0, [.int 0, .int 0, .double 0, .double 0, .double 0, .double 0])), (b5, .inr (0, [.int 0, .int 0, .double 0, .double 0, .double 0, .double 0]))] := hD
  refine va_astq hx hb hK hP hD hS 1 0 7 0 rfl (r := (RX0, TX0, 6)) rfl rfl rfl (vp_in_nI (n := 5) (by decide) (by decide)) dX1_init_36 (fun H locs hP hD hS => ?_)
  have hP : va_P D vwCl [(r, .inr (1, [.ref la, .int 0, .int 0, .int 0, .double 0])), (la, .inl (cA, (8, .inr (.inr (.inr (.inr (va_up (va_up (va_up (va_up (va_up (va_up (fun _ => none) 0 (some b0)) 1 (some b1)) 2 (some b2)) 3 (some b3)) 4 (some b4)) 5 (some b5)))))))), (b0, .inr (0, [.int 0, .int 0, .double 0, .double 0, .double 0, .double 0])), (b1, .inr (0, [.int 0, .int 0, .double 0, .double 0, .double 0, .double 0])), (b2, .inr (0, [.int 0, .int 0, .double 0, .double 0, .double 0, .double 0])), (b3, .inr (0, [.int 0, .int 0, .double 0, .double 0, .double 0, .double 0])), (b4, .inr (0, [.int 0, .int 0, .double 0, .double 0, .double 0, .double 0])), (b5, .inr (0, [.int 0, .int 0, .double 0, .double 0, .double 0, .double 0]))] H := hP
  have hD : va_D A [(r, .inr (1, [.ref la, .int 0, .int 0, .int 0, .double 0])), (la, .inl (cA, (8, .inr (.inr (.inr (.inr (va_up (va_up (va_up (va_up (va_up (va_up (fun _ => none) 0 (some b0)) 1 (some b1)) 2 (some b2)) 3 (some b3)) 4 (some b4)) 5 (some b5)))))))), (b0, .inr (0, [.int 0, .int 0, .double 0, .double 0, .double 0, .double 0])), (b1, .inr (0, [.int 0, .int 0, .double 0, .double 0, .double 0, .double 0])), (b2, .inr (0, [.int 0, .int 0, .double 0, .double 0, .double 0, .double 0])), (b3, .inr (0, [.int 0, .int 0, .double 0, .double 0, .double 0, .double 0])), (b4, .inr (0, [.int 0, .int 0, .double 0, .double 0, .double 0, .double 0])), (b5, .inr (0, [.int 0, .int 0, .double 0, .double 0, .double 0, .double 0]))] := hD
  refine lv_iinc (v := 6) (lv' := [(1, .int 6), (0, .ref r)]) hx hb dX1_init_37 hl (k := 0) rfl rfl (by decide) rfl (fun ls hl => ?_)
  refine lv_goto (tgt := 15) hx hb dX1_init_40 (by decide) ?_
  refine lv_iload_n hx hb dX1_init_15 rfl (lv_at hl 0 rfl) ?_
  refine lv_aload_n hx hb dX1_init_16 rfl (lv_at hl 1 rfl) ?_
  refine va_get (D := D) (ci := 1) (v := .ref la) (C := RX1) (T := TX1) (N := 5) hx hb hts (by decide +kernel) hown hK hP (0) rfl rfl 0 (by decide) (hts (.fieldLink RX1 11 "VinegarLoft$Row" "line" "[LVinegarLoft$Barrel;") (by decide +kernel)) (fun _ h9 => h9) rfl dX1_init_17 ?_
  refine va_alen hx hb hK hP 1 0 (v := 8) rfl rfl rfl dX1_init_20 ?_
  refine lv_icmp_ge (tgt := 43) hx hb dX1_init_21 (by decide) (fun c21 => absurd c21 (by decide)) (fun c21 => ?_)
  refine lv_aload_n hx hb dX1_init_24 rfl (lv_at hl 1 rfl) ?_
  refine va_get (D := D) (ci := 1) (v := .ref la) (C := RX1) (T := TX1) (N := 5) hx hb hts (by decide +kernel) hown hK hP (0) rfl rfl 0 (by decide) (hts (.fieldLink RX1 11 "VinegarLoft$Row" "line" "[LVinegarLoft$Barrel;") (by decide +kernel)) (fun _ h9 => h9) rfl dX1_init_25 ?_
  refine lv_iload_n hx hb dX1_init_28 rfl (lv_at hl 0 rfl) ?_
  refine va_new (ci := 0) (fs := [.int 0, .int 0, .double 0, .double 0, .double 0, .double 0]) (C := RX0) (T := TX0) (N := 6) hx hb hts (by decide +kernel) tyX0 tyX0_ok hown (hts (.classLink RX1 9 RX0) (by decide +kernel)) (hts (.instantiable RX0 6) (by decide +kernel)) (hts (.initialized RX0) (by decide +kernel)) hK hP hD hS hA rfl (fun j hj => by rcases (show j = 0 ∨ j = 1 ∨ j = 2 ∨ j = 3 ∨ j = 4 ∨ j = 5 by omega) with rfl | rfl | rfl | rfl | rfl | rfl <;> rfl) (Nat.le_of_ble_eq_true rfl) (Nat.le_of_ble_eq_true rfl) dX1_init_29 (fun b6 H hP hD hS => ?_)
  have hP : va_P D vwCl [(r, .inr (1, [.ref la, .int 0, .int 0, .int 0, .double 0])), (la, .inl (cA, (8, .inr (.inr (.inr (.inr (va_up (va_up (va_up (va_up (va_up (va_up (fun _ => none) 0 (some b0)) 1 (some b1)) 2 (some b2)) 3 (some b3)) 4 (some b4)) 5 (some b5)))))))), (b0, .inr (0, [.int 0, .int 0, .double 0, .double 0, .double 0, .double 0])), (b1, .inr (0, [.int 0, .int 0, .double 0, .double 0, .double 0, .double 0])), (b2, .inr (0, [.int 0, .int 0, .double 0, .double 0, .double 0, .double 0])), (b3, .inr (0, [.int 0, .int 0, .double 0, .double 0, .double 0, .double 0])), (b4, .inr (0, [.int 0, .int 0, .double 0, .double 0, .double 0, .double 0])), (b5, .inr (0, [.int 0, .int 0, .double 0, .double 0, .double 0, .double 0])), (b6, .inr (0, [.int 0, .int 0, .double 0, .double 0, .double 0, .double 0]))] H := hP
  have hD : va_D A [(r, .inr (1, [.ref la, .int 0, .int 0, .int 0, .double 0])), (la, .inl (cA, (8, .inr (.inr (.inr (.inr (va_up (va_up (va_up (va_up (va_up (va_up (fun _ => none) 0 (some b0)) 1 (some b1)) 2 (some b2)) 3 (some b3)) 4 (some b4)) 5 (some b5)))))))), (b0, .inr (0, [.int 0, .int 0, .double 0, .double 0, .double 0, .double 0])), (b1, .inr (0, [.int 0, .int 0, .double 0, .double 0, .double 0, .double 0])), (b2, .inr (0, [.int 0, .int 0, .double 0, .double 0, .double 0, .double 0])), (b3, .inr (0, [.int 0, .int 0, .double 0, .double 0, .double 0, .double 0])), (b4, .inr (0, [.int 0, .int 0, .double 0, .double 0, .double 0, .double 0])), (b5, .inr (0, [.int 0, .int 0, .double 0, .double 0, .double 0, .double 0])), (b6, .inr (0, [.int 0, .int 0, .double 0, .double 0, .double 0, .double 0]))] := hD
  refine lv_dup hx hb dX1_init_32 rfl ?_
  refine ko_v (k := 8) (va_runIN (As := []) (rest := [.ref b6, .int 6, .ref la]) ⟨hx, hb, hml, hown, hts⟩ (metX0_init l D H.size b6 0 0 0 0 0 0) ⟨va_cnB 0 hts gX1_init_X0_init_n17 rfl rfl rfl hNw (hts (.initialized RX0) (by decide +kernel)) (by decide +kernel) ⟨Nat.le_of_ble_eq_true rfl, Nat.le_of_ble_eq_true rfl⟩, rfl, hts (.instanceMethod yX0_init) (by decide +kernel)⟩ (pmS (vj_oP (k := 8) rfl hP) (hK.sub [] rfl) (vj_oD (k := 8) rfl hD)) rfl rfl hl.1 rfl (lv_room (Nat.le_of_ble_eq_true rfl)) dX1_init_33 ⟨Nat.le_of_ble_eq_true rfl, Nat.le_of_ble_eq_true rfl⟩) rfl hP hD hS hA (fun H locs hP hD hS => ?_)
  have hP : va_P D vwCl [(r, .inr (1, [.ref la, .int 0, .int 0, .int 0, .double 0])), (la, .inl (cA, (8, .inr (.inr (.inr (.inr (va_up (va_up (va_up (va_up (va_up (va_up (fun _ => none) 0 (some b0)) 1 (some b1)) 2 (some b2)) 3 (some b3)) 4 (some b4)) 5 (some b5)))))))), (b0, .inr (0, [.int 0, .int 0, .double 0, .double 0, .double 0, .double 0])), (b1, .inr (0, [.int 0, .int 0, .double 0, .double 0, .double 0, .double 0])), (b2, .inr (0, [.int 0, .int 0, .double 0, .double 0, .double 0, .double 0])), (b3, .inr (0, [.int 0, .int 0, .double 0, .double 0, .double 0, .double 0])), (b4, .inr (0, [.int 0, .int 0, .double 0, .double 0, .double 0, .double 0])), (b5, .inr (0, [.int 0, .int 0, .double 0, .double 0, .double 0, .double 0])), (b6, .inr (0, [.int 0, .int 0, .double 0, .double 0, .double 0, .double 0]))] H := hP
  have hD : va_D A [(r, .inr (1, [.ref la, .int 0, .int 0, .int 0, .double 0])), (la, .inl (cA, (8, .inr (.inr (.inr (.inr (va_up (va_up (va_up (va_up (va_up (va_up (fun _ => none) 0 (some b0)) 1 (some b1)) 2 (some b2)) 3 (some b3)) 4 (some b4)) 5 (some b5)))))))), (b0, .inr (0, [.int 0, .int 0, .double 0, .double 0, .double 0, .double 0])), (b1, .inr (0, [.int 0, .int 0, .double 0, .double 0, .double 0, .double 0])), (b2, .inr (0, [.int 0, .int 0, .double 0, .double 0, .double 0, .double 0])), (b3, .inr (0, [.int 0, .int 0, .double 0, .double 0, .double 0, .double 0])), (b4, .inr (0, [.int 0, .int 0, .double 0, .double 0, .double 0, .double 0])), (b5, .inr (0, [.int 0, .int 0, .double 0, .double 0, .double 0, .double 0])), (b6, .inr (0, [.int 0, .int 0, .double 0, .double 0, .double 0, .double 0]))] := hD
  refine va_astq hx hb hK hP hD hS 1 0 8 0 rfl (r := (RX0, TX0, 6)) rfl rfl rfl (vp_in_nI (n := 6) (by decide) (by decide)) dX1_init_36 (fun H locs hP hD hS => ?_)
  have hP : va_P D vwCl [(r, .inr (1, [.ref la, .int 0, .int 0, .int 0, .double 0])), (la, .inl (cA, (8, .inr (.inr (.inr (.inr (va_up (va_up (va_up (va_up (va_up (va_up (va_up (fun _ => none) 0 (some b0)) 1 (some b1)) 2 (some b2)) 3 (some b3)) 4 (some b4)) 5 (some b5)) 6 (some b6)))))))), (b0, .inr (0, [.int 0, .int 0, .double 0, .double 0, .double 0, .double 0])), (b1, .inr (0, [.int 0, .int 0, .double 0, .double 0, .double 0, .double 0])), (b2, .inr (0, [.int 0, .int 0, .double 0, .double 0, .double 0, .double 0])), (b3, .inr (0, [.int 0, .int 0, .double 0, .double 0, .double 0, .double 0])), (b4, .inr (0, [.int 0, .int 0, .double 0, .double 0, .double 0, .double 0])), (b5, .inr (0, [.int 0, .int 0, .double 0, .double 0, .double 0, .double 0])), (b6, .inr (0, [.int 0, .int 0, .double 0, .double 0, .double 0, .double 0]))] H := hP
  have hD : va_D A [(r, .inr (1, [.ref la, .int 0, .int 0, .int 0, .double 0])), (la, .inl (cA, (8, .inr (.inr (.inr (.inr (va_up (va_up (va_up (va_up (va_up (va_up (va_up (fun _ => none) 0 (some b0)) 1 (some b1)) 2 (some b2)) 3 (some b3)) 4 (some b4)) 5 (some b5)) 6 (some b6)))))))), (b0, .inr (0, [.int 0, .int 0, .double 0, .double 0, .double 0, .double 0])), (b1, .inr (0, [.int 0, .int 0, .double 0, .double 0, .double 0, .double 0])), (b2, .inr (0, [.int 0, .int 0, .double 0, .double 0, .double 0, .double 0])), (b3, .inr (0, [.int 0, .int 0, .double 0, .double 0, .double 0, .double 0])), (b4, .inr (0, [.int 0, .int 0, .double 0, .double 0, .double 0, .double 0])), (b5, .inr (0, [.int 0, .int 0, .double 0, .double 0, .double 0, .double 0])), (b6, .inr (0, [.int 0, .int 0, .double 0, .double 0, .double 0, .double 0]))] := hD
  refine lv_iinc (v := 7) (lv' := [(1, .int 7), (0, .ref r)]) hx hb dX1_init_37 hl (k := 0) rfl rfl (by decide) rfl (fun ls hl => ?_)
  refine lv_goto (tgt := 15) hx hb dX1_init_40 (by decide) ?_
  refine lv_iload_n hx hb dX1_init_15 rfl (lv_at hl 0 rfl) ?_
  refine lv_aload_n hx hb dX1_init_16 rfl (lv_at hl 1 rfl) ?_
  refine va_get (D := D) (ci := 1) (v := .ref la) (C := RX1) (T := TX1) (N := 5) hx hb hts (by decide +kernel) hown hK hP (0) rfl rfl 0 (by decide) (hts (.fieldLink RX1 11 "VinegarLoft$Row" "line" "[LVinegarLoft$Barrel;") (by decide +kernel)) (fun _ h9 => h9) rfl dX1_init_17 ?_
  refine va_alen hx hb hK hP 1 0 (v := 8) rfl rfl rfl dX1_init_20 ?_
  refine lv_icmp_ge (tgt := 43) hx hb dX1_init_21 (by decide) (fun c21 => absurd c21 (by decide)) (fun c21 => ?_)
  refine lv_aload_n hx hb dX1_init_24 rfl (lv_at hl 1 rfl) ?_
  refine va_get (D := D) (ci := 1) (v := .ref la) (C := RX1) (T := TX1) (N := 5) hx hb hts (by decide +kernel) hown hK hP (0) rfl rfl 0 (by decide) (hts (.fieldLink RX1 11 "VinegarLoft$Row" "line" "[LVinegarLoft$Barrel;") (by decide +kernel)) (fun _ h9 => h9) rfl dX1_init_25 ?_
  refine lv_iload_n hx hb dX1_init_28 rfl (lv_at hl 0 rfl) ?_
  refine va_new (ci := 0) (fs := [.int 0, .int 0, .double 0, .double 0, .double 0, .double 0]) (C := RX0) (T := TX0) (N := 6) hx hb hts (by decide +kernel) tyX0 tyX0_ok hown (hts (.classLink RX1 9 RX0) (by decide +kernel)) (hts (.instantiable RX0 6) (by decide +kernel)) (hts (.initialized RX0) (by decide +kernel)) hK hP hD hS hA rfl (fun j hj => by rcases (show j = 0 ∨ j = 1 ∨ j = 2 ∨ j = 3 ∨ j = 4 ∨ j = 5 by omega) with rfl | rfl | rfl | rfl | rfl | rfl <;> rfl) (Nat.le_of_ble_eq_true rfl) (Nat.le_of_ble_eq_true rfl) dX1_init_29 (fun b7 H hP hD hS => ?_)
  have hP : va_P D vwCl [(r, .inr (1, [.ref la, .int 0, .int 0, .int 0, .double 0])), (la, .inl (cA, (8, .inr (.inr (.inr (.inr (va_up (va_up (va_up (va_up (va_up (va_up (va_up (fun _ => none) 0 (some b0)) 1 (some b1)) 2 (some b2)) 3 (some b3)) 4 (some b4)) 5 (some b5)) 6 (some b6)))))))), (b0, .inr (0, [.int 0, .int 0, .double 0, .double 0, .double 0, .double 0])), (b1, .inr (0, [.int 0, .int 0, .double 0, .double 0, .double 0, .double 0])), (b2, .inr (0, [.int 0, .int 0, .double 0, .double 0, .double 0, .double 0])), (b3, .inr (0, [.int 0, .int 0, .double 0, .double 0, .double 0, .double 0])), (b4, .inr (0, [.int 0, .int 0, .double 0, .double 0, .double 0, .double 0])), (b5, .inr (0, [.int 0, .int 0, .double 0, .double 0, .double 0, .double 0])), (b6, .inr (0, [.int 0, .int 0, .double 0, .double 0, .double 0, .double 0])), (b7, .inr (0, [.int 0, .int 0, .double 0, .double 0, .double 0, .double 0]))] H := hP
  have hD : va_D A [(r, .inr (1, [.ref la, .int 0, .int 0, .int 0, .double 0])), (la, .inl (cA, (8, .inr (.inr (.inr (.inr (va_up (va_up (va_up (va_up (va_up (va_up (va_up (fun _ => none) 0 (some b0)) 1 (some b1)) 2 (some b2)) 3 (some b3)) 4 (some b4)) 5 (some b5)) 6 (some b6)))))))), (b0, .inr (0, [.int 0, .int 0, .double 0, .double 0, .double 0, .double 0])), (b1, .inr (0, [.int 0, .int 0, .double 0, .double 0, .double 0, .double 0])), (b2, .inr (0, [.int 0, .int 0, .double 0, .double 0, .double 0, .double 0])), (b3, .inr (0, [.int 0, .int 0, .double 0, .double 0, .double 0, .double 0])), (b4, .inr (0, [.int 0, .int 0, .double 0, .double 0, .double 0, .double 0])), (b5, .inr (0, [.int 0, .int 0, .double 0, .double 0, .double 0, .double 0])), (b6, .inr (0, [.int 0, .int 0, .double 0, .double 0, .double 0, .double 0])), (b7, .inr (0, [.int 0, .int 0, .double 0, .double 0, .double 0, .double 0]))] := hD
  refine lv_dup hx hb dX1_init_32 rfl ?_
  refine ko_v (k := 9) (va_runIN (As := []) (rest := [.ref b7, .int 7, .ref la]) ⟨hx, hb, hml, hown, hts⟩ (metX0_init l D H.size b7 0 0 0 0 0 0) ⟨va_cnB 0 hts gX1_init_X0_init_n17 rfl rfl rfl hNw (hts (.initialized RX0) (by decide +kernel)) (by decide +kernel) ⟨Nat.le_of_ble_eq_true rfl, Nat.le_of_ble_eq_true rfl⟩, rfl, hts (.instanceMethod yX0_init) (by decide +kernel)⟩ (pmS (vj_oP (k := 9) rfl hP) (hK.sub [] rfl) (vj_oD (k := 9) rfl hD)) rfl rfl hl.1 rfl (lv_room (Nat.le_of_ble_eq_true rfl)) dX1_init_33 ⟨Nat.le_of_ble_eq_true rfl, Nat.le_of_ble_eq_true rfl⟩) rfl hP hD hS hA (fun H locs hP hD hS => ?_)
  have hP : va_P D vwCl [(r, .inr (1, [.ref la, .int 0, .int 0, .int 0, .double 0])), (la, .inl (cA, (8, .inr (.inr (.inr (.inr (va_up (va_up (va_up (va_up (va_up (va_up (va_up (fun _ => none) 0 (some b0)) 1 (some b1)) 2 (some b2)) 3 (some b3)) 4 (some b4)) 5 (some b5)) 6 (some b6)))))))), (b0, .inr (0, [.int 0, .int 0, .double 0, .double 0, .double 0, .double 0])), (b1, .inr (0, [.int 0, .int 0, .double 0, .double 0, .double 0, .double 0])), (b2, .inr (0, [.int 0, .int 0, .double 0, .double 0, .double 0, .double 0])), (b3, .inr (0, [.int 0, .int 0, .double 0, .double 0, .double 0, .double 0])), (b4, .inr (0, [.int 0, .int 0, .double 0, .double 0, .double 0, .double 0])), (b5, .inr (0, [.int 0, .int 0, .double 0, .double 0, .double 0, .double 0])), (b6, .inr (0, [.int 0, .int 0, .double 0, .double 0, .double 0, .double 0])), (b7, .inr (0, [.int 0, .int 0, .double 0, .double 0, .double 0, .double 0]))] H := hP
  have hD : va_D A [(r, .inr (1, [.ref la, .int 0, .int 0, .int 0, .double 0])), (la, .inl (cA, (8, .inr (.inr (.inr (.inr (va_up (va_up (va_up (va_up (va_up (va_up (va_up (fun _ => none) 0 (some b0)) 1 (some b1)) 2 (some b2)) 3 (some b3)) 4 (some b4)) 5 (some b5)) 6 (some b6)))))))), (b0, .inr (0, [.int 0, .int 0, .double 0, .double 0, .double 0, .double 0])), (b1, .inr (0, [.int 0, .int 0, .double 0, .double 0, .double 0, .double 0])), (b2, .inr (0, [.int 0, .int 0, .double 0, .double 0, .double 0, .double 0])), (b3, .inr (0, [.int 0, .int 0, .double 0, .double 0, .double 0, .double 0])), (b4, .inr (0, [.int 0, .int 0, .double 0, .double 0, .double 0, .double 0])), (b5, .inr (0, [.int 0, .int 0, .double 0, .double 0, .double 0, .double 0])), (b6, .inr (0, [.int 0, .int 0, .double 0, .double 0, .double 0, .double 0])), (b7, .inr (0, [.int 0, .int 0, .double 0, .double 0, .double 0, .double 0]))] := hD
  refine va_astq hx hb hK hP hD hS 1 0 9 0 rfl (r := (RX0, TX0, 6)) rfl rfl rfl (vp_in_nI (n := 7) (by decide) (by decide)) dX1_init_36 (fun H locs hP hD hS => ?_)
  have hP : va_P D vwCl [(r, .inr (1, [.ref la, .int 0, .int 0, .int 0, .double 0])), (la, .inl (cA, (8, .inr (.inr (.inr (.inr (va_up (va_up (va_up (va_up (va_up (va_up (va_up (va_up (fun _ => none) 0 (some b0)) 1 (some b1)) 2 (some b2)) 3 (some b3)) 4 (some b4)) 5 (some b5)) 6 (some b6)) 7 (some b7)))))))), (b0, .inr (0, [.int 0, .int 0, .double 0, .double 0, .double 0, .double 0])), (b1, .inr (0, [.int 0, .int 0, .double 0, .double 0, .double 0, .double 0])), (b2, .inr (0, [.int 0, .int 0, .double 0, .double 0, .double 0, .double 0])), (b3, .inr (0, [.int 0, .int 0, .double 0, .double 0, .double 0, .double 0])), (b4, .inr (0, [.int 0, .int 0, .double 0, .double 0, .double 0, .double 0])), (b5, .inr (0, [.int 0, .int 0, .double 0, .double 0, .double 0, .double 0])), (b6, .inr (0, [.int 0, .int 0, .double 0, .double 0, .double 0, .double 0])), (b7, .inr (0, [.int 0, .int 0, .double 0, .double 0, .double 0, .double 0]))] H := hP
  have hD : va_D A [(r, .inr (1, [.ref la, .int 0, .int 0, .int 0, .double 0])), (la, .inl (cA, (8, .inr (.inr (.inr (.inr (va_up (va_up (va_up (va_up (va_up (va_up (va_up (va_up (fun _ => none) 0 (some b0)) 1 (some b1)) 2 (some b2)) 3 (some b3)) 4 (some b4)) 5 (some b5)) 6 (some b6)) 7 (some b7)))))))), (b0, .inr (0, [.int 0, .int 0, .double 0, .double 0, .double 0, .double 0])), (b1, .inr (0, [.int 0, .int 0, .double 0, .double 0, .double 0, .double 0])), (b2, .inr (0, [.int 0, .int 0, .double 0, .double 0, .double 0, .double 0])), (b3, .inr (0, [.int 0, .int 0, .double 0, .double 0, .double 0, .double 0])), (b4, .inr (0, [.int 0, .int 0, .double 0, .double 0, .double 0, .double 0])), (b5, .inr (0, [.int 0, .int 0, .double 0, .double 0, .double 0, .double 0])), (b6, .inr (0, [.int 0, .int 0, .double 0, .double 0, .double 0, .double 0])), (b7, .inr (0, [.int 0, .int 0, .double 0, .double 0, .double 0, .double 0]))] := hD
  refine lv_iinc (v := 8) (lv' := [(1, .int 8), (0, .ref r)]) hx hb dX1_init_37 hl (k := 0) rfl rfl (by decide) rfl (fun ls hl => ?_)
  refine lv_goto (tgt := 15) hx hb dX1_init_40 (by decide) ?_
  refine lv_iload_n hx hb dX1_init_15 rfl (lv_at hl 0 rfl) ?_
  refine lv_aload_n hx hb dX1_init_16 rfl (lv_at hl 1 rfl) ?_
  refine va_get (D := D) (ci := 1) (v := .ref la) (C := RX1) (T := TX1) (N := 5) hx hb hts (by decide +kernel) hown hK hP (0) rfl rfl 0 (by decide) (hts (.fieldLink RX1 11 "VinegarLoft$Row" "line" "[LVinegarLoft$Barrel;") (by decide +kernel)) (fun _ h9 => h9) rfl dX1_init_17 ?_
  refine va_alen hx hb hK hP 1 0 (v := 8) rfl rfl rfl dX1_init_20 ?_
  refine lv_icmp_ge (tgt := 43) hx hb dX1_init_21 (by decide) (fun c21 => ?_) (fun c21 => absurd (by decide) c21)
  refine lv_aload_n hx hb dX1_init_43 rfl (lv_at hl 1 rfl) ?_
  refine lv_iconst (v := 0) hx hb dX1_init_44 (by decide) ?_
  refine va_put (D := D) (ci := 1) (v := .int 0) (ty := .int) (C := RX1) (T := TX1) (N := 5) hx hb hts (by decide +kernel) tyX1 tyX1_ok nmX1 hown hK hP hD hS (0) rfl rfl 1 (by decide) (hts (.fieldLink RX1 18 "VinegarLoft$Row" "count" "I") (by decide +kernel)) (fun _ h9 => h9) rfl (by decide +kernel) rfl rfl (Nat.le_of_ble_eq_true rfl) dX1_init_45 (fun H locs hP hD hS => ?_)
  have hP : va_P D vwCl [(r, .inr (1, [.ref la, .int 0, .int 0, .int 0, .double 0])), (la, .inl (cA, (8, .inr (.inr (.inr (.inr (va_up (va_up (va_up (va_up (va_up (va_up (va_up (va_up (fun _ => none) 0 (some b0)) 1 (some b1)) 2 (some b2)) 3 (some b3)) 4 (some b4)) 5 (some b5)) 6 (some b6)) 7 (some b7)))))))), (b0, .inr (0, [.int 0, .int 0, .double 0, .double 0, .double 0, .double 0])), (b1, .inr (0, [.int 0, .int 0, .double 0, .double 0, .double 0, .double 0])), (b2, .inr (0, [.int 0, .int 0, .double 0, .double 0, .double 0, .double 0])), (b3, .inr (0, [.int 0, .int 0, .double 0, .double 0, .double 0, .double 0])), (b4, .inr (0, [.int 0, .int 0, .double 0, .double 0, .double 0, .double 0])), (b5, .inr (0, [.int 0, .int 0, .double 0, .double 0, .double 0, .double 0])), (b6, .inr (0, [.int 0, .int 0, .double 0, .double 0, .double 0, .double 0])), (b7, .inr (0, [.int 0, .int 0, .double 0, .double 0, .double 0, .double 0]))] H := hP
  have hD : va_D A [(r, .inr (1, [.ref la, .int 0, .int 0, .int 0, .double 0])), (la, .inl (cA, (8, .inr (.inr (.inr (.inr (va_up (va_up (va_up (va_up (va_up (va_up (va_up (va_up (fun _ => none) 0 (some b0)) 1 (some b1)) 2 (some b2)) 3 (some b3)) 4 (some b4)) 5 (some b5)) 6 (some b6)) 7 (some b7)))))))), (b0, .inr (0, [.int 0, .int 0, .double 0, .double 0, .double 0, .double 0])), (b1, .inr (0, [.int 0, .int 0, .double 0, .double 0, .double 0, .double 0])), (b2, .inr (0, [.int 0, .int 0, .double 0, .double 0, .double 0, .double 0])), (b3, .inr (0, [.int 0, .int 0, .double 0, .double 0, .double 0, .double 0])), (b4, .inr (0, [.int 0, .int 0, .double 0, .double 0, .double 0, .double 0])), (b5, .inr (0, [.int 0, .int 0, .double 0, .double 0, .double 0, .double 0])), (b6, .inr (0, [.int 0, .int 0, .double 0, .double 0, .double 0, .double 0])), (b7, .inr (0, [.int 0, .int 0, .double 0, .double 0, .double 0, .double 0]))] := hD
  refine lv_aload_n hx hb dX1_init_48 rfl (lv_at hl 1 rfl) ?_
  refine lv_bipush (v := 18) hx hb dX1_init_49 (by decide) ?_
  refine va_put (D := D) (ci := 1) (v := .int 18) (ty := .int) (C := RX1) (T := TX1) (N := 5) hx hb hts (by decide +kernel) tyX1 tyX1_ok nmX1 hown hK hP hD hS (0) rfl rfl 2 (by decide) (hts (.fieldLink RX1 22 "VinegarLoft$Row" "warmth" "I") (by decide +kernel)) (fun _ h9 => h9) rfl (by decide +kernel) rfl rfl (Nat.le_of_ble_eq_true rfl) dX1_init_51 (fun H locs hP hD hS => ?_)
  have hP : va_P D vwCl [(r, .inr (1, [.ref la, .int 0, .int 18, .int 0, .double 0])), (la, .inl (cA, (8, .inr (.inr (.inr (.inr (va_up (va_up (va_up (va_up (va_up (va_up (va_up (va_up (fun _ => none) 0 (some b0)) 1 (some b1)) 2 (some b2)) 3 (some b3)) 4 (some b4)) 5 (some b5)) 6 (some b6)) 7 (some b7)))))))), (b0, .inr (0, [.int 0, .int 0, .double 0, .double 0, .double 0, .double 0])), (b1, .inr (0, [.int 0, .int 0, .double 0, .double 0, .double 0, .double 0])), (b2, .inr (0, [.int 0, .int 0, .double 0, .double 0, .double 0, .double 0])), (b3, .inr (0, [.int 0, .int 0, .double 0, .double 0, .double 0, .double 0])), (b4, .inr (0, [.int 0, .int 0, .double 0, .double 0, .double 0, .double 0])), (b5, .inr (0, [.int 0, .int 0, .double 0, .double 0, .double 0, .double 0])), (b6, .inr (0, [.int 0, .int 0, .double 0, .double 0, .double 0, .double 0])), (b7, .inr (0, [.int 0, .int 0, .double 0, .double 0, .double 0, .double 0]))] H := hP
  have hD : va_D A [(r, .inr (1, [.ref la, .int 0, .int 18, .int 0, .double 0])), (la, .inl (cA, (8, .inr (.inr (.inr (.inr (va_up (va_up (va_up (va_up (va_up (va_up (va_up (va_up (fun _ => none) 0 (some b0)) 1 (some b1)) 2 (some b2)) 3 (some b3)) 4 (some b4)) 5 (some b5)) 6 (some b6)) 7 (some b7)))))))), (b0, .inr (0, [.int 0, .int 0, .double 0, .double 0, .double 0, .double 0])), (b1, .inr (0, [.int 0, .int 0, .double 0, .double 0, .double 0, .double 0])), (b2, .inr (0, [.int 0, .int 0, .double 0, .double 0, .double 0, .double 0])), (b3, .inr (0, [.int 0, .int 0, .double 0, .double 0, .double 0, .double 0])), (b4, .inr (0, [.int 0, .int 0, .double 0, .double 0, .double 0, .double 0])), (b5, .inr (0, [.int 0, .int 0, .double 0, .double 0, .double 0, .double 0])), (b6, .inr (0, [.int 0, .int 0, .double 0, .double 0, .double 0, .double 0])), (b7, .inr (0, [.int 0, .int 0, .double 0, .double 0, .double 0, .double 0]))] := hD
  refine lv_aload_n hx hb dX1_init_54 rfl (lv_at hl 1 rfl) ?_
  refine lv_iconst (v := (-1)) hx hb dX1_init_55 (by decide) ?_
  refine va_put (D := D) (ci := 1) (v := .int (-1)) (ty := .int) (C := RX1) (T := TX1) (N := 5) hx hb hts (by decide +kernel) tyX1 tyX1_ok nmX1 hown hK hP hD hS (0) rfl rfl 3 (by decide) (hts (.fieldLink RX1 25 "VinegarLoft$Row" "drawnFrom" "I") (by decide +kernel)) (fun _ h9 => h9) rfl (by decide +kernel) rfl rfl (Nat.le_of_ble_eq_true rfl) dX1_init_56 (fun H locs hP hD hS => ?_)
  have hP : va_P D vwCl [(r, .inr (1, [.ref la, .int 0, .int 18, .int (-1), .double 0])), (la, .inl (cA, (8, .inr (.inr (.inr (.inr (va_up (va_up (va_up (va_up (va_up (va_up (va_up (va_up (fun _ => none) 0 (some b0)) 1 (some b1)) 2 (some b2)) 3 (some b3)) 4 (some b4)) 5 (some b5)) 6 (some b6)) 7 (some b7)))))))), (b0, .inr (0, [.int 0, .int 0, .double 0, .double 0, .double 0, .double 0])), (b1, .inr (0, [.int 0, .int 0, .double 0, .double 0, .double 0, .double 0])), (b2, .inr (0, [.int 0, .int 0, .double 0, .double 0, .double 0, .double 0])), (b3, .inr (0, [.int 0, .int 0, .double 0, .double 0, .double 0, .double 0])), (b4, .inr (0, [.int 0, .int 0, .double 0, .double 0, .double 0, .double 0])), (b5, .inr (0, [.int 0, .int 0, .double 0, .double 0, .double 0, .double 0])), (b6, .inr (0, [.int 0, .int 0, .double 0, .double 0, .double 0, .double 0])), (b7, .inr (0, [.int 0, .int 0, .double 0, .double 0, .double 0, .double 0]))] H := hP
  have hD : va_D A [(r, .inr (1, [.ref la, .int 0, .int 18, .int (-1), .double 0])), (la, .inl (cA, (8, .inr (.inr (.inr (.inr (va_up (va_up (va_up (va_up (va_up (va_up (va_up (va_up (fun _ => none) 0 (some b0)) 1 (some b1)) 2 (some b2)) 3 (some b3)) 4 (some b4)) 5 (some b5)) 6 (some b6)) 7 (some b7)))))))), (b0, .inr (0, [.int 0, .int 0, .double 0, .double 0, .double 0, .double 0])), (b1, .inr (0, [.int 0, .int 0, .double 0, .double 0, .double 0, .double 0])), (b2, .inr (0, [.int 0, .int 0, .double 0, .double 0, .double 0, .double 0])), (b3, .inr (0, [.int 0, .int 0, .double 0, .double 0, .double 0, .double 0])), (b4, .inr (0, [.int 0, .int 0, .double 0, .double 0, .double 0, .double 0])), (b5, .inr (0, [.int 0, .int 0, .double 0, .double 0, .double 0, .double 0])), (b6, .inr (0, [.int 0, .int 0, .double 0, .double 0, .double 0, .double 0])), (b7, .inr (0, [.int 0, .int 0, .double 0, .double 0, .double 0, .double 0]))] := hD
  refine lv_aload_n hx hb dX1_init_59 rfl (lv_at hl 1 rfl) ?_
  refine kd_0 hx hb dX1_init_60 ?_
  refine va_put (D := D) (ci := 1) (v := .double 0) (ty := .double) (C := RX1) (T := TX1) (N := 5) hx hb hts (by decide +kernel) tyX1 tyX1_ok nmX1 hown hK hP hD hS (0) rfl rfl 4 (by decide) (hts (.fieldLink RX1 28 "VinegarLoft$Row" "mayBeDrawn" "D") (by decide +kernel)) (fun _ h9 => h9) rfl (by decide +kernel) rfl rfl (Nat.le_of_ble_eq_true rfl) dX1_init_61 (fun H locs hP hD hS => ?_)
  have hP : va_P D vwCl [(r, .inr (1, [.ref la, .int 0, .int 18, .int (-1), .double 0])), (la, .inl (cA, (8, .inr (.inr (.inr (.inr (va_up (va_up (va_up (va_up (va_up (va_up (va_up (va_up (fun _ => none) 0 (some b0)) 1 (some b1)) 2 (some b2)) 3 (some b3)) 4 (some b4)) 5 (some b5)) 6 (some b6)) 7 (some b7)))))))), (b0, .inr (0, [.int 0, .int 0, .double 0, .double 0, .double 0, .double 0])), (b1, .inr (0, [.int 0, .int 0, .double 0, .double 0, .double 0, .double 0])), (b2, .inr (0, [.int 0, .int 0, .double 0, .double 0, .double 0, .double 0])), (b3, .inr (0, [.int 0, .int 0, .double 0, .double 0, .double 0, .double 0])), (b4, .inr (0, [.int 0, .int 0, .double 0, .double 0, .double 0, .double 0])), (b5, .inr (0, [.int 0, .int 0, .double 0, .double 0, .double 0, .double 0])), (b6, .inr (0, [.int 0, .int 0, .double 0, .double 0, .double 0, .double 0])), (b7, .inr (0, [.int 0, .int 0, .double 0, .double 0, .double 0, .double 0]))] H := hP
  have hD : va_D A [(r, .inr (1, [.ref la, .int 0, .int 18, .int (-1), .double 0])), (la, .inl (cA, (8, .inr (.inr (.inr (.inr (va_up (va_up (va_up (va_up (va_up (va_up (va_up (va_up (fun _ => none) 0 (some b0)) 1 (some b1)) 2 (some b2)) 3 (some b3)) 4 (some b4)) 5 (some b5)) 6 (some b6)) 7 (some b7)))))))), (b0, .inr (0, [.int 0, .int 0, .double 0, .double 0, .double 0, .double 0])), (b1, .inr (0, [.int 0, .int 0, .double 0, .double 0, .double 0, .double 0])), (b2, .inr (0, [.int 0, .int 0, .double 0, .double 0, .double 0, .double 0])), (b3, .inr (0, [.int 0, .int 0, .double 0, .double 0, .double 0, .double 0])), (b4, .inr (0, [.int 0, .int 0, .double 0, .double 0, .double 0, .double 0])), (b5, .inr (0, [.int 0, .int 0, .double 0, .double 0, .double 0, .double 0])), (b6, .inr (0, [.int 0, .int 0, .double 0, .double 0, .double 0, .double 0])), (b7, .inr (0, [.int 0, .int 0, .double 0, .double 0, .double 0, .double 0]))] := hD
  have hP9 : va_P D vwCl (row0 r la (bsf b0 b1 b2 b3 b4 b5 b6 b7) cA) H := by
    intro k q hk
    match k, hk with
    | 0, hk => cases hk; exact hP 0 _ rfl
    | 1, hk => cases hk; exact va_line (hP 1 _ rfl) (fun j hj => lt8 (P := fun j => (va_up (va_up (va_up (va_up (va_up (va_up (va_up (va_up (fun _ => none) 0 (some b0)) 1 (some b1)) 2 (some b2)) 3 (some b3)) 4 (some b4)) 5 (some b5)) 6 (some b6)) 7 (some b7)) j = some ((bsf b0 b1 b2 b3 b4 b5 b6 b7) j)) rfl rfl rfl rfl rfl rfl rfl rfl hj)
    | 2, hk => cases hk; exact hP 2 _ rfl
    | 3, hk => cases hk; exact hP 3 _ rfl
    | 4, hk => cases hk; exact hP 4 _ rfl
    | 5, hk => cases hk; exact hP 5 _ rfl
    | 6, hk => cases hk; exact hP 6 _ rfl
    | 7, hk => cases hk; exact hP 7 _ rfl
    | 8, hk => cases hk; exact hP 8 _ rfl
    | 9, hk => cases hk; exact hP 9 _ rfl
    | k + 10, hk => simp [rowW] at hk
  have hD9 : va_D A (row0 r la (bsf b0 b1 b2 b3 b4 b5 b6 b7) cA) := by
    have key : ∀ (k : Nat) (q : Nat × va_E), (row0 r la (bsf b0 b1 b2 b3 b4 b5 b6 b7) cA)[k]? = some q → ∃ q0, ([(r, .inr (1, [.ref la, .int 0, .int 18, .int (-1), .double 0])), (la, .inl (cA, (8, .inr (.inr (.inr (.inr (va_up (va_up (va_up (va_up (va_up (va_up (va_up (va_up (fun _ => none) 0 (some b0)) 1 (some b1)) 2 (some b2)) 3 (some b3)) 4 (some b4)) 5 (some b5)) 6 (some b6)) 7 (some b7)))))))), (b0, .inr (0, [.int 0, .int 0, .double 0, .double 0, .double 0, .double 0])), (b1, .inr (0, [.int 0, .int 0, .double 0, .double 0, .double 0, .double 0])), (b2, .inr (0, [.int 0, .int 0, .double 0, .double 0, .double 0, .double 0])), (b3, .inr (0, [.int 0, .int 0, .double 0, .double 0, .double 0, .double 0])), (b4, .inr (0, [.int 0, .int 0, .double 0, .double 0, .double 0, .double 0])), (b5, .inr (0, [.int 0, .int 0, .double 0, .double 0, .double 0, .double 0])), (b6, .inr (0, [.int 0, .int 0, .double 0, .double 0, .double 0, .double 0])), (b7, .inr (0, [.int 0, .int 0, .double 0, .double 0, .double 0, .double 0]))] : va_W)[k]? = some q0 ∧ q0.1 = q.1 := by
      intro k q hk
      match k, hk with
      | 0, hk => cases hk; exact ⟨_, rfl, rfl⟩
      | 1, hk => cases hk; exact ⟨_, rfl, rfl⟩
      | 2, hk => cases hk; exact ⟨_, rfl, rfl⟩
      | 3, hk => cases hk; exact ⟨_, rfl, rfl⟩
      | 4, hk => cases hk; exact ⟨_, rfl, rfl⟩
      | 5, hk => cases hk; exact ⟨_, rfl, rfl⟩
      | 6, hk => cases hk; exact ⟨_, rfl, rfl⟩
      | 7, hk => cases hk; exact ⟨_, rfl, rfl⟩
      | 8, hk => cases hk; exact ⟨_, rfl, rfl⟩
      | 9, hk => cases hk; exact ⟨_, rfl, rfl⟩
      | k + 10, hk => simp [rowW] at hk
    refine ⟨fun i j p q hi hj h => ?_, fun k q hk => ?_⟩
    · obtain ⟨p0, a1, a2⟩ := key i p hi
      obtain ⟨q0, b1, b2⟩ := key j q hj
      exact hD.1 i j p0 q0 a1 b1 (by rw [a2, b2]; exact h)
    · obtain ⟨q0, a1, a2⟩ := key k q hk
      rw [← a2]; exact hD.2 k q0 a1
  refine W.widen (k := 9) (n := 56) (Nat.le_of_ble_eq_true rfl) (Nat.le_of_ble_eq_true rfl) ?_
  exact W.vret hx hb hr (fun t ht hW => ⟨⟨(la, bsf b0 b1 b2 b3 b4 b5 b6 b7, cA), rfl, trivial, by rw [ht]; exact hP9, va_K.moved hW.alike hK, hD9⟩, hS.F ht⟩) hS.2.2 dX1_init_64
end
section
/-! what a throw needs of the start, and calls that may throw -/
abbrev xIAE : String := "java/lang/IllegalArgumentException"
abbrev xISE : String := "java/lang/IllegalStateException"
abbrev xIOB : String := "java/lang/IndexOutOfBoundsException"
abbrev xNm : List String := ["java/lang/RuntimeException", "java/lang/Exception"]
/-- the words of the throws that no method's own list has -/
def xW : List Cond := ((vx_atS RX2 31 xIAE xNm).filter (fun w => !goodWord w) ++ (vx_atS RX2 48 xISE xNm).filter (fun w => !goodWord w)) ++ (vx_atS RX2 137 xIOB xNm).filter (fun w => !goodWord w)
theorem xW_face : xW.all (fun w => w.onTables && w.keepsFace) = true := by decide +kernel
/-- the texts -/
def xT : List (Nat × String) := [(29, "no such wood"), (38, "size out of range"), (46, "the row has all its barrels"), (53, "litres out of range"), (66, "bottles out of range"), (95, "degrees out of range"), (118, "no such kind of bottles"), (135, "no such barrel")]
theorem face_at {w : Cond} {args a' : Array Value} {s U : State} (hw : (w.onTables && w.keepsFace) = true) (hW : s.WarmedH U.vm) (h : w.before args s = true) : w.before a' U = true := by
  simp only [Bool.and_eq_true] at hw
  have h1 : w.before args (s.setVm U.vm) = true := Cond.before_shiftedFace (State.Shifted.of_warmed hW) w hw.2 h
  exact va_tabs (u := s.setVm U.vm) (U := U) hw.1 rfl h1
/-- what a throw needs: the two statics of Throwable out of the region A, the words, the texts -/
def XP (A : Nat → Prop) (U : State) (H : Heap) : Prop := vx_Zq Bundle.tN "UNASSIGNED_STACK" Bundle.steD A U H ∧ vx_Zq Bundle.tN "SUPPRESSED_SENTINEL" Bundle.listD A U H ∧ (∀ w ∈ xW, w.before #[] U = true) ∧ ∀ q ∈ xT, ∃ sa : Nat, vk_R RX2 q.1 q.2 sa U
theorem XP.moved {A : Nat → Prop} {s U : State} {H : Heap} (hW : s.WarmedH U.vm) (h : XP A s H) : XP A U H :=
  ⟨h.1.moved hW.alike, h.2.1.moved hW.alike, fun w hw => face_at (List.all_eq_true.mp xW_face w hw) hW (h.2.2.1 w hw), fun q hq => by obtain ⟨sa, h1⟩ := h.2.2.2 q hq; exact ⟨sa, vk_R.warm hW h1⟩⟩
theorem XP.narrow {A B : Nat → Prop} {U : State} {H : Heap} (h : XP A U H) (hAB : ∀ q, B q → A q) : XP B U H := ⟨h.1.narrow hAB, h.2.1.narrow hAB, h.2.2⟩
theorem XP.kept {A : Nat → Prop} {U : State} {H H1 : Heap} (h : XP A U H) (hq : ∀ a : Nat, a < H.size → ¬ A a → H1[a]? = H[a]?) : XP A U H1 := ⟨h.1.kept hq, h.2.1.kept hq, h.2.2⟩
/-- a method's start where something may be thrown -/
def Pt (D : va_G) (tys : List (ClassId × FieldType)) (av : List Value) (ws : va_W) (sz : Nat) : Array Value → State → Prop := va_Pc av (fun U => U.heap.size = sz ∧ va_P D vwCl ws U.heap ∧ va_K D vwCl tys U ∧ va_D (fun _ => True) ws ∧ XP (va_A ws sz) U U.heap)
theorem Pt_blind {D : va_G} {tys : List (ClassId × FieldType)} {av : List Value} {ws : va_W} {sz : Nat} : FrameBlind (Pt D tys av ws sz) := fun a U g mk q => by
  obtain ⟨q0, q1, qP, qK, qD, qX⟩ := q
  exact ⟨q0, q1, qP, va_K.moved (u := U) (U := U.calling g mk a) (Vm.Alike.refl U.vm) qK, qD, qX.moved (s := U) (U := U.calling g mk a) (State.WarmedH.refl U)⟩
section PRE
variable {s : State} {H : Heap} {D : va_G} {tys : List (ClassId × FieldType)} {ws : va_W} {A : Nat → Prop} {As : List Value} {b : Addr}
theorem ptS (hP : va_P D vwCl ws H) (hK : va_K D vwCl tys s) (hD : va_D A ws) (hX : XP A s H) (hA : ∀ q, H.size ≤ q → A q) : PreS s H (Pt D tys As ws H.size) As :=
  ⟨Pt_blind, fun U hU hW => ⟨rfl, by rw [hU], by rw [hU]; exact hP, va_K.moved hW.alike hK, hD.weaken (fun _ _ _ _ => trivial), by
    rw [hU]
    refine (hX.moved hW).narrow (fun q h => ?_)
    rcases h with ⟨k, e, h⟩ | h
    · exact hD.2 k _ h
    · exact hA q h⟩⟩
theorem ptV (ci k : Nat) (C : String) (T : u_T) (N : Nat) {fs : List Value} (hc : vwCl[ci]? = some (C, T, N)) (he : ws[k]? = some (b, .inr (ci, fs))) (hP : va_P D vwCl ws H) (hK : va_K D vwCl tys s) (hD : va_D A ws) (hX : XP A s H) (hA : ∀ q, H.size ≤ q → A q) : PreV s H C b (Pt D tys (.ref b :: As) ws H.size) As :=
  ⟨Pt_blind, va_recv hK hP hc he, (ptS hP hK hD hX hA).2⟩
end PRE
/-- how a method ends by a throw: what is thrown, the world as it was -/
abbrev XE (XB : String → Prop) (D : va_G) (tys : List (ClassId × FieldType)) (A : Nat → Prop) (ws : va_W) : String → State → State → Prop := vx_X (fun (_ : Unit) => True) (fun E (_ : Unit) t => XB E ∧ va_P D vwCl ws t.heap ∧ va_K D vwCl tys t ∧ va_D A ws) A
theorem va_F_of {A : Nat → Prop} {s t : State} {H : Heap} {locs : List Loc} (hS : va_S A s.heap H locs) (h1 : H.size ≤ t.heap.size) (h2 : ∀ q : Nat, q < H.size → t.heap[q]? = H[q]?) : va_F A s t :=
  ⟨Nat.le_trans hS.1 h1, fun q hq hA => by rw [h2 q (Nat.lt_of_lt_of_le hq hS.1)]; exact hS.2.1 q hq hA⟩
section THROW
variable {p : Program} {l : Launch} {e : Env} {R : Room} {s : State} {m : MethodId} {args : Array Value} {below : List Frame} {meth : Method} {c : Code} {H : Heap} {locs : List Loc} {cells slots : Nat} {Q : State → Prop}
variable {pc : Nat} {ls : Array Slot} {rest st0 : List Value} {aa : Array Value} {D : va_G} {tc : List (ClassId × FieldType)} {A : Nat → Prop} {H0 : Heap} {cc : ByteArray} {ws : va_W}
/-- 'throw new cls("text")' out of a method of VinegarLoft -/
theorem kx_throw {Qc : Array Value → State → Outcome → State → Prop} {XB : String → Prop} {free : Addr → Prop} {cls text : String} {ik is ic : Nat} (hexec : p.tables.exec = Jvm.exec) (hb : c.code = cc) (hl : l.stackTraces = false) (hown : s.vm.findClass RX2 = some m.cls) (hlocks : meth.locks = false) (hcls : Bundle.fit cls = true)
    (hk : (Cond.classLink RX2 ik cls).before args s = true) (hini : (Cond.initialized cls).before args s = true) (hq : (is, text) ∈ xT)
    (hg1 : ∀ w ∈ (vx_atS RX2 ic cls xNm).filter goodWord, w.before args s = true) (hg2 : ∀ w ∈ (vx_atS RX2 ic cls xNm).filter (fun w => !goodWord w), w ∈ xW)
    (hgood : ∀ w ∈ Cond.classLink RX2 ik cls :: Cond.initialized cls :: vx_atS RX2 ic cls xNm, vx_ot w = true)
    (hX : XP A s s.heap) (hS : va_S A s.heap H locs) (hsize : ls.size = c.maxLocals) (ht : ∀ x ∈ c.exceptionTable.toList, False)
    (d0 : decode cc pc = .ok (.new ik, 3)) (d3 : decode cc (pc + 3) = .ok (.dup, 1)) (d4 : decode cc (pc + 4) = .ok (.ldc is, 2)) (d6 : decode cc (pc + 6) = .ok (.invokespecial ic, 3)) (d9 : decode cc (pc + 9) = .ok (.athrow, 1))
    (hR : 6 ≤ R.frames ∧ 82 ≤ R.locals ∧ cells + 1 ≤ R.cells ∧ slots + 6 ≤ R.slots) (hB : XB cls) (hP : va_P D vwCl ws H) (hK : va_K D vwCl tc s) (hD : va_D A ws) (hf : ∀ q, A q → free q) (hc : cells + 1 ≤ 1) (hs : slots + 6 ≤ 6) :
    W p l e R s m args below meth c H locs cells slots (vx_MQ below Qc (XE XB D tc A ws) args s 1 6 free) (F0 m pc ls []) := by
  obtain ⟨sa, hstr⟩ := hX.2.2.2 (is, text) hq
  have hbw : ∀ w ∈ xW, w.before args s = true := fun w hw => by
    have h1 := List.all_eq_true.mp xW_face w hw
    simp only [Bool.and_eq_true] at h1
    exact va_tabs h1.1 rfl (hX.2.2.1 w hw)
  refine vx_throwS (A := A) hexec hb hl (own := RX2) (cls := cls) (names := xNm) (text := text) hown hcls (by decide) hk hini hstr (vx_hat hg1 hg2 hbw) hgood hX.1 hX.2.1 hS hsize d0 d3 d4 d6 d9 (fun x hx => (ht x hx).elim)
    (by have h9 : xNm.length = 2 := rfl; omega) (by have h9 : xNm.length = 2 := rfl; simp only [List.map_nil, List.sum_nil]; omega) hR.2.2.1 hR.2.2.2 hlocks (fun t hvm h1 h2 => ⟨(), trivial, ⟨hB, ?_, va_K.moved hvm hK, hD⟩, va_F_of hS h1 h2⟩) (fun z hz => hf _ (hS.2.2 z hz)) hc hs
  exact hP.kept (fun k q hk => h2 q.1 (hP k q hk).lt)
/-- a call that answers a reference or throws -/
theorem vx_callr {S SX : Type} {post : S → Prop} {px : SX → Prop} {mc ms : Nat} {free : Addr → Prop} {A0 A1 : Nat → Prop} {B : S → Nat → State → Prop} {BX : String → SX → State → Prop} {AX : Nat → Prop} (hr : vx_Run p l e R s m args below meth c H locs cells slots mc ms (F0 m pc ls st0) rest (va_Qr post B A1 aa) (vx_X px BX AX) free) (hS : va_S A0 H0 H locs) (hA : ∀ q, q < H.size → A1 q → A0 q) (hf : ∀ q, free q → A0 q) (hAX : ∀ q, q < H.size → AX q → A0 q)
    (kx : ∀ (E : String) (ce : Cell) (q9 : Addr) (u : SX) (t : State) (H1 : Heap) (locs1 : List Loc), t.heap = H1 → s.vm.Alike t.vm → px u → BX E u t → H.size ≤ H1.size → (∀ q : Nat, q < H.size → ¬ AX q → H1[q]? = H[q]?) → va_S A0 H0 H1 locs1 → H1[q9]? = some ce → ce.vm = .none → s.vm.findClass E = some ce.cls → vx_W p l e R s m args below meth c H1 locs1 (cells + mc) (slots + ms) Q (F0 m pc ls rest) q9)
    (kk : ∀ (u : S) (ra : Nat) (t : State) (H1 : Heap) (locs1 : List Loc), t.heap = H1 → s.vm.Alike t.vm → post u → B u ra t → H.size ≤ H1.size → (∀ q : Nat, q < H.size → ¬ A1 q → H1[q]? = H[q]?) → va_S A0 H0 H1 locs1 → W p l e R s m args below meth c H1 locs1 (cells + mc) (slots + ms) Q (F0 m (pc + 3) ls (.ref ra :: rest))) : W p l e R s m args below meth c H locs cells slots Q (F0 m pc ls st0) := by
  intro T hT X
  rcases hr T hT X with ⟨v, st₀, t, T', L, h0, X', hL, e1, e2, ⟨⟨u, ra, hv, hp, hb⟩, hF⟩, st⟩ | ⟨q, st₀, t, T', L, E, ce, h0, X', hL, e1, e2, ⟨u, hp, hb, hF⟩, hce, hcv, hcl, st⟩
  · cases hv
    obtain ⟨k1, k2, k3⟩ := vx_keep h0 e1 hS hA hf hL hF
    obtain ⟨t2, a1, b1⟩ := kk u ra t T'.heap (locs ++ L) e1.symm (by rw [← e2]; exact X'.warmed.alike) hp hb k1 k2 k3 T' rfl X'
    exact ⟨t2, st t2 a1, b1⟩
  · obtain ⟨k1, k2, k3⟩ := vx_keep h0 e1 hS hAX hf hL hF
    obtain ⟨t2, a1, b1⟩ := kx E ce q u t T'.heap (locs ++ L) e1.symm (by rw [← e2]; exact X'.warmed.alike) hp hb k1 k2 k3 (by rw [e1]; exact hce) hcv hcl T' rfl X'
    exact ⟨t2, st.trans a1, b1⟩
/-! calls that may throw, over the middle of a world; where they throw the world is as it was -/
variable {A0 : Nat → Prop} {w1 w2 w2' w3 : va_W} {mc ms : Nat} {OK : Prop} {XB : String → Prop}
theorem kq_i {RES : Int32} (hr : vx_Run p l e R s m args below meth c H locs cells slots mc ms (F0 m pc ls st0) rest (va_Qi (fun (r : Int32) (_ : Unit) => OK ∧ r = RES) (Bm D tc (va_A w2 H.size) w2') (va_A w2 H.size) aa) (XE XB D tc (va_A w2 H.size) w2) (va_A w2 H.size)) (hP : va_P D vwCl (w1 ++ (w2 ++ w3)) H) (hD : va_D A0 (w1 ++ (w2 ++ w3))) (hS : va_S A0 H0 H locs) (hA : ∀ q, H0.size ≤ q → A0 q)
    (kx : ∀ (E : String) (ce : Cell) (q9 : Addr) (H1 : Heap) (locs1 : List Loc), XB E → va_P D vwCl (w1 ++ (w2 ++ w3)) H1 → va_D A0 (w1 ++ (w2 ++ w3)) → va_S A0 H0 H1 locs1 → H1[q9]? = some ce → ce.vm = .none → s.vm.findClass E = some ce.cls → vx_W p l e R s m args below meth c H1 locs1 (cells + mc) (slots + ms) Q (F0 m pc ls rest) q9)
    (kk : ∀ (H1 : Heap) (locs1 : List Loc), OK → va_P D vwCl (w1 ++ (w2' ++ w3)) H1 → va_D A0 (w1 ++ (w2' ++ w3)) → va_S A0 H0 H1 locs1 → W p l e R s m args below meth c H1 locs1 (cells + mc) (slots + ms) Q (F0 m (pc + 3) ls (.int RES :: rest))) : W p l e R s m args below meth c H locs cells slots Q (F0 m pc ls st0) := by
  refine vx_calli hr hS (fun q _ h => vj_mF hD hS hA q h) (vj_mF hD hS hA) (fun q _ h => vj_mF hD hS hA q h) (fun E ce q9 u t H1 locs1 ht hvm _ hB hz hk hS1 hce hcv hcl => ?_) (fun r u t H1 locs1 ht hvm hw hB hz hk hS1 => ?_)
  · obtain ⟨hX, hP1, hK1, hD1⟩ := hB
    rw [ht] at hP1
    obtain ⟨hP2, hD2⟩ := vj_mid hP hD hk (vj_mF hD hS hA) hP1 hD1
    exact kx E ce q9 H1 locs1 hX hP2 hD2 hS1 hce hcv hcl
  · obtain ⟨hok, hw⟩ := hw
    subst hw
    obtain ⟨hP1, hK1, hD1⟩ := hB
    rw [ht] at hP1
    obtain ⟨hP2, hD2⟩ := vj_mid hP hD hk (vj_mF hD hS hA) hP1 hD1
    exact kk H1 locs1 hok hP2 hD2 hS1
theorem kq_d {RES : UInt64} (hr : vx_Run p l e R s m args below meth c H locs cells slots mc ms (F0 m pc ls st0) rest (va_Qd (fun (r : UInt64) (_ : Unit) => OK ∧ r = RES) (Bm D tc (va_A w2 H.size) w2') (va_A w2 H.size) aa) (XE XB D tc (va_A w2 H.size) w2) (va_A w2 H.size)) (hP : va_P D vwCl (w1 ++ (w2 ++ w3)) H) (hD : va_D A0 (w1 ++ (w2 ++ w3))) (hS : va_S A0 H0 H locs) (hA : ∀ q, H0.size ≤ q → A0 q)
    (kx : ∀ (E : String) (ce : Cell) (q9 : Addr) (H1 : Heap) (locs1 : List Loc), XB E → va_P D vwCl (w1 ++ (w2 ++ w3)) H1 → va_D A0 (w1 ++ (w2 ++ w3)) → va_S A0 H0 H1 locs1 → H1[q9]? = some ce → ce.vm = .none → s.vm.findClass E = some ce.cls → vx_W p l e R s m args below meth c H1 locs1 (cells + mc) (slots + ms) Q (F0 m pc ls rest) q9)
    (kk : ∀ (H1 : Heap) (locs1 : List Loc), OK → va_P D vwCl (w1 ++ (w2' ++ w3)) H1 → va_D A0 (w1 ++ (w2' ++ w3)) → va_S A0 H0 H1 locs1 → W p l e R s m args below meth c H1 locs1 (cells + mc) (slots + ms) Q (F0 m (pc + 3) ls (.double RES :: rest))) : W p l e R s m args below meth c H locs cells slots Q (F0 m pc ls st0) := by
  refine vx_calld hr hS (fun q _ h => vj_mF hD hS hA q h) (vj_mF hD hS hA) (fun q _ h => vj_mF hD hS hA q h) (fun E ce q9 u t H1 locs1 ht hvm _ hB hz hk hS1 hce hcv hcl => ?_) (fun r u t H1 locs1 ht hvm hw hB hz hk hS1 => ?_)
  · obtain ⟨hX, hP1, hK1, hD1⟩ := hB
    rw [ht] at hP1
    obtain ⟨hP2, hD2⟩ := vj_mid hP hD hk (vj_mF hD hS hA) hP1 hD1
    exact kx E ce q9 H1 locs1 hX hP2 hD2 hS1 hce hcv hcl
  · obtain ⟨hok, hw⟩ := hw
    subst hw
    obtain ⟨hP1, hK1, hD1⟩ := hB
    rw [ht] at hP1
    obtain ⟨hP2, hD2⟩ := vj_mid hP hD hk (vj_mF hD hS hA) hP1 hD1
    exact kk H1 locs1 hok hP2 hD2 hS1
theorem kq_v (hr : vx_Run p l e R s m args below meth c H locs cells slots mc ms (F0 m pc ls st0) rest (va_Qv (fun (_ : Unit) => OK) (Bm D tc (va_A w2 H.size) w2') (va_A w2 H.size) aa) (XE XB D tc (va_A w2 H.size) w2) (va_A w2 H.size)) (hP : va_P D vwCl (w1 ++ (w2 ++ w3)) H) (hD : va_D A0 (w1 ++ (w2 ++ w3))) (hS : va_S A0 H0 H locs) (hA : ∀ q, H0.size ≤ q → A0 q)
    (kx : ∀ (E : String) (ce : Cell) (q9 : Addr) (H1 : Heap) (locs1 : List Loc), XB E → va_P D vwCl (w1 ++ (w2 ++ w3)) H1 → va_D A0 (w1 ++ (w2 ++ w3)) → va_S A0 H0 H1 locs1 → H1[q9]? = some ce → ce.vm = .none → s.vm.findClass E = some ce.cls → vx_W p l e R s m args below meth c H1 locs1 (cells + mc) (slots + ms) Q (F0 m pc ls rest) q9)
    (kk : ∀ (H1 : Heap) (locs1 : List Loc), OK → va_P D vwCl (w1 ++ (w2' ++ w3)) H1 → va_D A0 (w1 ++ (w2' ++ w3)) → va_S A0 H0 H1 locs1 → W p l e R s m args below meth c H1 locs1 (cells + mc) (slots + ms) Q (F0 m (pc + 3) ls rest)) : W p l e R s m args below meth c H locs cells slots Q (F0 m pc ls st0) := by
  refine vx_callv hr hS (fun q _ h => vj_mF hD hS hA q h) (vj_mF hD hS hA) (fun q _ h => vj_mF hD hS hA q h) (fun E ce q9 u t H1 locs1 ht hvm _ hB hz hk hS1 hce hcv hcl => ?_) (fun u t H1 locs1 ht hvm hw hB hz hk hS1 => ?_)
  · obtain ⟨hX, hP1, hK1, hD1⟩ := hB
    rw [ht] at hP1
    obtain ⟨hP2, hD2⟩ := vj_mid hP hD hk (vj_mF hD hS hA) hP1 hD1
    exact kx E ce q9 H1 locs1 hX hP2 hD2 hS1 hce hcv hcl
  · obtain ⟨hP1, hK1, hD1⟩ := hB
    rw [ht] at hP1
    obtain ⟨hP2, hD2⟩ := vj_mid hP hD hk (vj_mF hD hS hA) hP1 hD1
    exact kk H1 locs1 hw hP2 hD2 hS1
theorem kq_r {RES : Nat} (hr : vx_Run p l e R s m args below meth c H locs cells slots mc ms (F0 m pc ls st0) rest (va_Qr (fun (_ : Unit) => OK) (fun _ a t => a = RES ∧ va_P D vwCl w2' t.heap ∧ va_K D vwCl tc t ∧ va_D (va_A w2 H.size) w2') (va_A w2 H.size) aa) (XE XB D tc (va_A w2 H.size) w2) (va_A w2 H.size)) (hP : va_P D vwCl (w1 ++ (w2 ++ w3)) H) (hD : va_D A0 (w1 ++ (w2 ++ w3))) (hS : va_S A0 H0 H locs) (hA : ∀ q, H0.size ≤ q → A0 q)
    (kx : ∀ (E : String) (ce : Cell) (q9 : Addr) (H1 : Heap) (locs1 : List Loc), XB E → va_P D vwCl (w1 ++ (w2 ++ w3)) H1 → va_D A0 (w1 ++ (w2 ++ w3)) → va_S A0 H0 H1 locs1 → H1[q9]? = some ce → ce.vm = .none → s.vm.findClass E = some ce.cls → vx_W p l e R s m args below meth c H1 locs1 (cells + mc) (slots + ms) Q (F0 m pc ls rest) q9)
    (kk : ∀ (H1 : Heap) (locs1 : List Loc), OK → va_P D vwCl (w1 ++ (w2' ++ w3)) H1 → va_D A0 (w1 ++ (w2' ++ w3)) → va_S A0 H0 H1 locs1 → W p l e R s m args below meth c H1 locs1 (cells + mc) (slots + ms) Q (F0 m (pc + 3) ls (.ref RES :: rest))) : W p l e R s m args below meth c H locs cells slots Q (F0 m pc ls st0) := by
  refine vx_callr hr hS (fun q _ h => vj_mF hD hS hA q h) (vj_mF hD hS hA) (fun q _ h => vj_mF hD hS hA q h) (fun E ce q9 u t H1 locs1 ht hvm _ hB hz hk hS1 hce hcv hcl => ?_) (fun u ra t H1 locs1 ht hvm hw hB hz hk hS1 => ?_)
  · obtain ⟨hX, hP1, hK1, hD1⟩ := hB
    rw [ht] at hP1
    obtain ⟨hP2, hD2⟩ := vj_mid hP hD hk (vj_mF hD hS hA) hP1 hD1
    exact kx E ce q9 H1 locs1 hX hP2 hD2 hS1 hce hcv hcl
  · obtain ⟨he, hP1, hK1, hD1⟩ := hB
    subst he
    rw [ht] at hP1
    obtain ⟨hP2, hD2⟩ := vj_mid hP hD hk (vj_mF hD hS hA) hP1 hD1
    exact kk H1 locs1 hw hP2 hD2 hS1
/-- what a callee threw goes on to the caller's caller -/
theorem kx_out {Qc : Array Value → State → Outcome → State → Prop} {free : Addr → Prop} {E : String} {ce : Cell} {q9 : Addr} (ht : ∀ x ∈ c.exceptionTable.toList, False) (hlocks : meth.locks = false) (hcell : H[q9]? = some ce) (hv : ce.vm = .none) (hcl : s.vm.findClass E = some ce.cls) (hB : XB E) (hP : va_P D vwCl ws H) (hK : va_K D vwCl tc s) (hD : va_D A ws) (hS : va_S A s.heap H locs) (hf : ∀ q, A q → free q) (hc : cells ≤ mc) (hs : slots ≤ ms) :
    vx_W p l e R s m args below meth c H locs cells slots (vx_MQ below Qc (XE XB D tc A ws) args s mc ms free) (F0 m pc ls rest) q9 :=
  vx_out (fun x hx => (ht x hx).elim) hlocks hcell hv hcl (fun t hth hvm => ⟨(), trivial, ⟨hB, by rw [hth]; exact hP, va_K.moved hvm hK, hD⟩, hS.F hth⟩) (fun z hz => hf _ (hS.2.2 z hz)) hc hs
end THROW
/-- a method with a table of its own that lets nothing out -/
theorem kMet_H {l : Launch} {y : MethodName} {ws ws' : List Cond} {rm : Room} {Pc : Array Value → State → Prop} {Qc : Array Value → State → Outcome → State → Prop} {mc ms : Nat} {free : Addr → Prop} {cc : ByteArray} {maxL : Nat} {ret : Option FieldType} {hh : List (Nat × Nat × Nat × Nat)}
    (hy : plainName y.cls = true) (hw : ws = Cond.codeWith y cc maxL ret hh :: ws')
    (body : ∀ p e s m args below meth c s₁, BodyLoose p l y (headSpec ws rm) cc maxL ret e s m args below meth c s₁ → c.maxLocals = maxL → c.exceptionTable.toList = tableOf hh → Pc args s →
      W p l e (headSpec ws rm).room s m args below meth c s.heap [] 0 0 (MQ below Qc args s mc ms free) (entryFrame m args maxL)) : Met l y ws rm Pc Qc mc ms free := by
  refine MetFree.of_bodyS (code := cc) (maxLocals := maxL) (ret := ret) hy ?_ ?_
  · intro args s m h hn
    obtain ⟨m9, meth, c, hn9, h1, h2, h3, h4, -, h5, h6, -⟩ := Cond.codeWith_spec (atoms_spec (ws := ws) h _ (by rw [hw]; exact List.mem_cons_self))
    cases hn.symm.trans hn9
    exact ⟨meth, c, h1, h2, h3, h4, h5, h6⟩
  · intro p e s m args below meth c s₁ B hml hP _
    have hh0 : s₁.heap = s.heap := by rw [B.state]; rfl
    have htab := vx_table (x := y) B (atoms_spec (ws := ws) B.pre _ (by rw [hw]; exact List.mem_cons_self))
    obtain ⟨t, a1, o, b1, b2, b3⟩ := body p e s m args below meth c s₁ B hml htab hP s₁ hh0 (Stand.of_body B)
    exact ⟨t, o, a1, b1, b2, b3⟩
end
section
/-! the loft as a world; what its calls do -/
abbrev EX (r t d : Nat) (yg : Int32) : va_E := .inr (2, [.ref r, .ref t, .ref d, .int yg])
abbrev ED (cI : ClassId) (dk : Nat → Int32) : va_E := .inl (cI, (3, .inl dk))
section LOFT
variable {x : Nat} {e : va_E} {r la : Nat} {bs : Nat → Nat} {cA : ClassId} {n wm df : Int32} {q : UInt64} {wd zs : Nat → Int32} {h : Nat → UInt64} {w3 w4 : va_W} {d : Nat} {E E' : va_E}
theorem lofW_b {i : Nat} (hi : i < 8) : ([(x, e)] ++ (rowW r la bs cA n wm df q wd zs h ++ w3))[1 + (2 + i)]? = some (bs i, Bk wd zs h i) := vj_inB (w1 := [(x, e)]) (rowW_b hi)
theorem lofW_sh {i : Nat} (hi : i < 8) (li ag ac su : UInt64) : ([(x, e)] ++ (rowW r la bs cA n wm df q wd zs h ++ w3)).set (1 + (2 + i)) (bs i, EB (wd i) (zs i) li ag ac su) = [(x, e)] ++ (rowW r la bs cA n wm df q wd zs (hset h i li ag ac su) ++ w3) := by
  have hl : (rowW r la bs cA n wm df q wd zs h).length = 10 := rfl
  rw [List.set_append_right _ _ (by simp), List.length_singleton, show 1 + (2 + i) - 1 = 2 + i by omega, List.set_append_left _ _ (by rw [hl]; omega), rowW_sh hi]
theorem lofW_d : ([(x, e)] ++ (rowW r la bs cA n wm df q wd zs h ++ (w4 ++ [(d, E)])))[1 + (10 + w4.length)]? = some (d, E) := by
  refine vj_inC (w1 := [(x, e)]) (w2 := rowW r la bs cA n wm df q wd zs h) (k := w4.length) ?_
  rw [List.getElem?_append_right (Nat.le_refl _), Nat.sub_self]
  rfl
theorem lofW_sd : ([(x, e)] ++ (rowW r la bs cA n wm df q wd zs h ++ (w4 ++ [(d, E)]))).set (1 + (10 + w4.length)) (d, E') = [(x, e)] ++ (rowW r la bs cA n wm df q wd zs h ++ (w4 ++ [(d, E')])) := by
  have hl : (rowW r la bs cA n wm df q wd zs h).length = 10 := rfl
  rw [List.set_append_right _ _ (by simp), List.length_singleton, show 1 + (10 + w4.length) - 1 = 10 + w4.length by omega, List.set_append_right _ _ (by rw [hl]; omega), hl, show 10 + w4.length - 10 = w4.length by omega, List.set_append_right _ _ (Nat.le_refl _), Nat.sub_self]
  rfl
end LOFT
/-- the mean of something -/
def mnv (f : Nat) (h : Nat → UInt64) (n : Nat) : UInt64 := if FP.dcmp (suL h n) 0 = some .gt then FP.ddiv (suP f h n) (suL h n) else 0
def mnok (f : Nat) (h : Nat → UInt64) (n : Nat) : Prop := suLok h n ∧ FP.dcmp (suL h n) 0 ≠ none ∧ (FP.dcmp (suL h n) 0 = some .gt → suPok f h n ∧ vf_n64 (FP.ddiv (suP f h n) (suL h n)))
/-- the kind of a bottle -/
def kndN (a : UInt64) : Nat := if FP.dcmp a 4625759767262920704 = some .lt then 0 else if FP.dcmp a 4627730092099895296 = some .lt then 1 else 2
theorem kndN_lt (a : UInt64) : kndN a < 3 := by
  unfold kndN
  split
  · omega
  · split <;> omega
theorem i32_nlt {x : Int32} (h : x ≤ 0) : ¬ 0 < x := fun h2 => by
  have h3 := Int32.lt_iff_toInt_lt.mp h2
  have h4 := Int32.le_iff_toInt_le.mp h
  omega
theorem i32_pos {x : Int32} (h : ¬ x ≤ 0) : 0 < x := by
  rw [Int32.lt_iff_toInt_lt]
  rw [Int32.le_iff_toInt_le] at h
  omega
/-- how many bottles are drawn of x -/
def takv (h : Nat → UInt64) (n : Nat) (df : Int32) (q : UInt64) (x : Int32) : Int32 := if x < rdv h n df q then x else rdv h n df q
theorem tak_pos {h : Nat → UInt64} {n : Nat} {df : Int32} {q : UInt64} {x : Int32} (h0 : 0 < takv h n df q x) : 0 < rdv h n df q := by
  unfold takv at h0
  split at h0
  · rename_i h1
    rw [Int32.lt_iff_toInt_lt] at *
    omega
  · exact h0
theorem rdv_pos {h : Nat → UInt64} {n : Nat} {df : Int32} {q : UInt64} (h0 : 0 < rdv h n df q) : ∃ b, elO h n = some b ∧ nI b = df := by
  cases ho : elO h n with
  | none =>
    rw [rdv_none ho] at h0
    exact absurd h0 (by decide)
  | some b =>
    refine ⟨b, rfl, Classical.byContradiction fun h1 => ?_⟩
    rw [rdv_some ho, if_neg h1] at h0
    exact absurd h0 (by decide)
def drH (h : Nat → UInt64) (n : Nat) (df : Int32) (q : UInt64) (x : Int32) : Nat → UInt64 := match elO h n with
  | none => h
  | some b => if 0 < takv h n df q x then tkH h b (botv (takv h n df q x)) else h
def drQ (h : Nat → UInt64) (n : Nat) (df : Int32) (q : UInt64) (x : Int32) : UInt64 := match elO h n with
  | none => q
  | some _ => if 0 < takv h n df q x then FP.dsub q (botv (takv h n df q x)) else q
def drK (dk : Nat → Int32) (h : Nat → UInt64) (n : Nat) (df : Int32) (q : UInt64) (x : Int32) : Nat → Int32 := match elO h n with
  | none => dk
  | some b => if 0 < takv h n df q x then upd dk (kndN (h (8 + b))) (dk (kndN (h (8 + b))) + takv h n df q x) else dk
theorem dr_no {dk : Nat → Int32} {h : Nat → UInt64} {n : Nat} {df : Int32} {q : UInt64} {x : Int32} (h0 : takv h n df q x ≤ 0) : drH h n df q x = h ∧ drQ h n df q x = q ∧ drK dk h n df q x = dk := by
  have h1 := i32_nlt h0
  unfold drH drQ drK
  cases ho : elO h n with
  | none => exact ⟨rfl, rfl, rfl⟩
  | some b => simp [if_neg h1]
theorem dr_yes {dk : Nat → Int32} {h : Nat → UInt64} {n : Nat} {df : Int32} {q : UInt64} {x : Int32} {b : Nat} (ho : elO h n = some b) (h0 : 0 < takv h n df q x) : drH h n df q x = tkH h b (botv (takv h n df q x)) ∧ drQ h n df q x = FP.dsub q (botv (takv h n df q x)) ∧ drK dk h n df q x = upd dk (kndN (h (8 + b))) (dk (kndN (h (8 + b))) + takv h n df q x) := by
  unfold drH drQ drK
  rw [ho]
  simp only [if_pos h0]
  exact ⟨trivial, trivial, trivial⟩
def dwok (h : Nat → UInt64) (n : Nat) (df : Int32) (q : UInt64) (x : Int32) : Prop := ∀ b, elO h n = some b → 0 < takv h n df q x → vf_n64 (botv (takv h n df q x)) ∧ vf_n64 (FP.dsub q (botv (takv h n df q x))) ∧ vf_n64 (FP.dsub (h b) (botv (takv h n df q x))) ∧ FP.dcmp (FP.dsub (h b) (botv (takv h n df q x))) 0 ≠ none
/-! who is refused -/
def badA1 (zs : Nat → Int32) (n : Nat) (x z : Int32) : Prop := (x < 0 ∨ 4 ≤ x) ∨ (z < 10 ∨ lgN zs n < z)
def badR (lo hi x : Int32) : Prop := x < lo ∨ hi < x
def badI (n : Nat) (x : Int32) : Prop := x < 0 ∨ nI n ≤ x
theorem badI_not {n : Nat} (hn : n < 2 ^ 31) {x : Int32} (h1 : ¬ x < 0) (h2 : x < nI n) : ∃ j : Nat, j < n ∧ x = nI j := by
  obtain ⟨j, hj, rfl⟩ := nI_of h1
  exact ⟨j, (nI_ltI hj hn).mp h2, rfl⟩
end
section
/-! VinegarLoft: its methods (laid by wip/p23/prog/x2.py) -/
set_option maxHeartbeats 4000000 in
set_option maxRecDepth 100000 in
theorem metX2_barrels (l : Launch) (D : va_G) (x r t d : Nat) (yg : Int32) (la : Nat) (bs : Nat → Nat) (cA cI : ClassId) (n : Nat) (hn : n ≤ 8) (wm df : Int32) (q : UInt64) (wd zs : Nat → Int32) (h : Nat → UInt64) (w3 : va_W)  : Met l yX2_barrels wsX2_barrels { frames := 0, cells := 0, slots := 0, locals := 0 } (Pr D [(cA, .object "VinegarLoft$Barrel"), (cI, .int)] [.ref x] ([(x, EX r t d yg)] ++ (rowW r la bs cA (nI n) wm df q wd zs h ++ w3))) (vp_Si (fun r : Int32 => r = nI n)) 0 0 (fun _ => False) := by
  refine Met.ofW (cc := cX2_barrels) (maxL := 1) (ret := (some .int)) (by decide) rfl ?_
  intro p e s m args below meth c s₁ B hml hv
  obtain ⟨rfl, hP, hK⟩ := hv
  have hx := B.exec
  have hb := B.bytes
  have hr := B.returns
  have hts := atoms_spec (ws := wsX2_barrels) B.pre
  have hown : s.vm.findClass RX2 = some m.cls := findClass_of_methodNamed B.named
  have hlocks := B.notSynchronized
  have hl := lv_entry ([.ref x]) (n := 1) (Nat.le_of_ble_eq_true rfl)
  rw [lg_entry_eq]
  generalize (lg_sl ([.ref x]) ++ List.replicate (1 - (lg_sl ([.ref x])).length) Slot.unset).toArray = ls at hl ⊢
  have hl : lv_has ls 1 [(0, .ref x)] := hl
  refine lv_aload_n hx hb dX2_barrels_0 rfl (lv_at hl 0 rfl) ?_
  refine va_get (D := D) (ci := 2) (v := .ref r) (C := RX2) (T := TX2) (N := 4) hx hb hts (by decide +kernel) hown hK hP (0) rfl rfl 0 (by decide) (hts (.fieldLink RX2 10 "VinegarLoft" "row" "LVinegarLoft$Row;") (by decide +kernel)) (fun _ h9 => h9) rfl dX2_barrels_1 ?_
  refine va_get (D := D) (ci := 1) (v := .int (nI n)) (C := RX1) (T := TX1) (N := 5) hx hb hts (by decide +kernel) hown hK hP (1) rfl rfl 1 (by decide) (hts (.fieldLink RX2 100 "VinegarLoft$Row" "count" "I") (by decide +kernel)) (fun _ h9 => h9) rfl dX2_barrels_4 ?_
  exact W.iret hx hb hr (fun t ht hW => ⟨_, rfl, rfl, ht⟩) (fun q hq => absurd hq List.not_mem_nil) dX2_barrels_7
set_option maxHeartbeats 4000000 in
set_option maxRecDepth 100000 in
theorem metX2_years (l : Launch) (D : va_G) (x r t d : Nat) (yg : Int32) (la : Nat) (bs : Nat → Nat) (cA cI : ClassId) (n : Nat) (hn : n ≤ 8) (wm df : Int32) (q : UInt64) (wd zs : Nat → Int32) (h : Nat → UInt64) (w3 : va_W)  : Met l yX2_years wsX2_years { frames := 0, cells := 0, slots := 0, locals := 0 } (Pr D [(cA, .object "VinegarLoft$Barrel"), (cI, .int)] [.ref x] ([(x, EX r t d yg)] ++ (rowW r la bs cA (nI n) wm df q wd zs h ++ w3))) (vp_Si (fun r : Int32 => r = yg)) 0 0 (fun _ => False) := by
  refine Met.ofW (cc := cX2_years) (maxL := 1) (ret := (some .int)) (by decide) rfl ?_
  intro p e s m args below meth c s₁ B hml hv
  obtain ⟨rfl, hP, hK⟩ := hv
  have hx := B.exec
  have hb := B.bytes
  have hr := B.returns
  have hts := atoms_spec (ws := wsX2_years) B.pre
  have hown : s.vm.findClass RX2 = some m.cls := findClass_of_methodNamed B.named
  have hlocks := B.notSynchronized
  have hl := lv_entry ([.ref x]) (n := 1) (Nat.le_of_ble_eq_true rfl)
  rw [lg_entry_eq]
  generalize (lg_sl ([.ref x]) ++ List.replicate (1 - (lg_sl ([.ref x])).length) Slot.unset).toArray = ls at hl ⊢
  have hl : lv_has ls 1 [(0, .ref x)] := hl
  refine lv_aload_n hx hb dX2_years_0 rfl (lv_at hl 0 rfl) ?_
  refine va_get (D := D) (ci := 2) (v := .int yg) (C := RX2) (T := TX2) (N := 4) hx hb hts (by decide +kernel) hown hK hP (0) rfl rfl 3 (by decide) (hts (.fieldLink RX2 23 "VinegarLoft" "yearsGone" "I") (by decide +kernel)) (fun _ h9 => h9) rfl dX2_years_1 ?_
  exact W.iret hx hb hr (fun t ht hW => ⟨_, rfl, rfl, ht⟩) (fun q hq => absurd hq List.not_mem_nil) dX2_years_4
set_option maxHeartbeats 4000000 in
set_option maxRecDepth 100000 in
theorem metX2_oldest (l : Launch) (D : va_G) (x r t d : Nat) (yg : Int32) (la : Nat) (bs : Nat → Nat) (cA cI : ClassId) (n : Nat) (hn : n ≤ 8) (wm df : Int32) (q : UInt64) (wd zs : Nat → Int32) (h : Nat → UInt64) (w3 : va_W) (hN : NNr n h) : Met l yX2_oldest wsX2_oldest { frames := 2, cells := 0, slots := 0, locals := 44 } (Pr D [(cA, .object "VinegarLoft$Barrel"), (cI, .int)] [.ref x] ([(x, EX r t d yg)] ++ (rowW r la bs cA (nI n) wm df q wd zs h ++ w3))) (vp_Si (fun r : Int32 => r = encO (elO h n))) 0 0 (fun _ => False) := by
  refine Met.ofW (cc := cX2_oldest) (maxL := 1) (ret := (some .int)) (by decide) rfl ?_
  intro p e s m args below meth c s₁ B hml hv
  obtain ⟨rfl, hP, hK⟩ := hv
  have hx := B.exec
  have hb := B.bytes
  have hr := B.returns
  have hts := atoms_spec (ws := wsX2_oldest) B.pre
  have hown : s.vm.findClass RX2 = some m.cls := findClass_of_methodNamed B.named
  have hlocks := B.notSynchronized
  have hl := lv_entry ([.ref x]) (n := 1) (Nat.le_of_ble_eq_true rfl)
  rw [lg_entry_eq]
  generalize (lg_sl ([.ref x]) ++ List.replicate (1 - (lg_sl ([.ref x])).length) Slot.unset).toArray = ls at hl ⊢
  have hl : lv_has ls 1 [(0, .ref x)] := hl
  refine lv_aload_n hx hb dX2_oldest_0 rfl (lv_at hl 0 rfl) ?_
  refine va_get (D := D) (ci := 2) (v := .ref r) (C := RX2) (T := TX2) (N := 4) hx hb hts (by decide +kernel) hown hK hP (0) rfl rfl 0 (by decide) (hts (.fieldLink RX2 10 "VinegarLoft" "row" "LVinegarLoft$Row;") (by decide +kernel)) (fun _ h9 => h9) rfl dX2_oldest_1 ?_
  refine kr_i (W.runV (As := []) (rest := []) ⟨hx, hb, hml, hown, hts⟩ (metX1_eldest l D r la bs cA n hn wm df q wd zs h hN) (cwV 0 hts gX2_oldest_X1_eldest rfl rfl rfl (by decide +kernel) ⟨Nat.le_of_ble_eq_true rfl, Nat.le_of_ble_eq_true rfl⟩) (prV 1 0 RX1 TX1 5 rfl rfl (vj_mP hP) (hK.sub [0] rfl)) rfl rfl hl.1 rfl (lv_room (Nat.le_of_ble_eq_true rfl)) dX2_oldest_4 ⟨Nat.le_of_ble_eq_true rfl, Nat.le_of_ble_eq_true rfl⟩) ?_
  exact W.iret hx hb hr (fun t ht hW => ⟨_, rfl, rfl, ht⟩) (fun q hq => absurd hq List.not_mem_nil) dX2_oldest_7
set_option maxHeartbeats 4000000 in
set_option maxRecDepth 100000 in
theorem metX2_drawable (l : Launch) (D : va_G) (x r t d : Nat) (yg : Int32) (la : Nat) (bs : Nat → Nat) (cA cI : ClassId) (n : Nat) (hn : n ≤ 8) (wm df : Int32) (q : UInt64) (wd zs : Nat → Int32) (h : Nat → UInt64) (w3 : va_W) (hN : NNr n h) (hr9 : rdok h n q) : Met l yX2_drawable wsX2_drawable { frames := 3, cells := 0, slots := 0, locals := 68 } (Pr D [(cA, .object "VinegarLoft$Barrel"), (cI, .int)] [.ref x] ([(x, EX r t d yg)] ++ (rowW r la bs cA (nI n) wm df q wd zs h ++ w3))) (vp_Si (fun r : Int32 => r = rdv h n df q)) 0 0 (fun _ => False) := by
  refine Met.ofW (cc := cX2_drawable) (maxL := 1) (ret := (some .int)) (by decide) rfl ?_
  intro p e s m args below meth c s₁ B hml hv
  obtain ⟨rfl, hP, hK⟩ := hv
  have hx := B.exec
  have hb := B.bytes
  have hr := B.returns
  have hts := atoms_spec (ws := wsX2_drawable) B.pre
  have hown : s.vm.findClass RX2 = some m.cls := findClass_of_methodNamed B.named
  have hlocks := B.notSynchronized
  have hl := lv_entry ([.ref x]) (n := 1) (Nat.le_of_ble_eq_true rfl)
  rw [lg_entry_eq]
  generalize (lg_sl ([.ref x]) ++ List.replicate (1 - (lg_sl ([.ref x])).length) Slot.unset).toArray = ls at hl ⊢
  have hl : lv_has ls 1 [(0, .ref x)] := hl
  refine lv_aload_n hx hb dX2_drawable_0 rfl (lv_at hl 0 rfl) ?_
  refine va_get (D := D) (ci := 2) (v := .ref r) (C := RX2) (T := TX2) (N := 4) hx hb hts (by decide +kernel) hown hK hP (0) rfl rfl 0 (by decide) (hts (.fieldLink RX2 10 "VinegarLoft" "row" "LVinegarLoft$Row;") (by decide +kernel)) (fun _ h9 => h9) rfl dX2_drawable_1 ?_
  refine kr_i (W.runV (As := []) (rest := []) ⟨hx, hb, hml, hown, hts⟩ (metX1_bottlesReady l D r la bs cA n hn wm df q wd zs h hN hr9) (cwV 0 hts gX2_drawable_X1_bottlesReady rfl rfl rfl (by decide +kernel) ⟨Nat.le_of_ble_eq_true rfl, Nat.le_of_ble_eq_true rfl⟩) (prV 1 0 RX1 TX1 5 rfl rfl (vj_mP hP) (hK.sub [0] rfl)) rfl rfl hl.1 rfl (lv_room (Nat.le_of_ble_eq_true rfl)) dX2_drawable_4 ⟨Nat.le_of_ble_eq_true rfl, Nat.le_of_ble_eq_true rfl⟩) ?_
  exact W.iret hx hb hr (fun t ht hW => ⟨_, rfl, rfl, ht⟩) (fun q hq => absurd hq List.not_mem_nil) dX2_drawable_7
set_option maxHeartbeats 4000000 in
set_option maxRecDepth 100000 in
theorem metX2_meanAge (l : Launch) (D : va_G) (x r t d : Nat) (yg : Int32) (la : Nat) (bs : Nat → Nat) (cA cI : ClassId) (n : Nat) (hn : n ≤ 8) (wm df : Int32) (q : UInt64) (wd zs : Nat → Int32) (h : Nat → UInt64) (w3 : va_W) (hm : mnok 8 h n) : Met l yX2_meanAge wsX2_meanAge { frames := 1, cells := 0, slots := 0, locals := 23 } (Pr D [(cA, .object "VinegarLoft$Barrel"), (cI, .int)] [.ref x] ([(x, EX r t d yg)] ++ (rowW r la bs cA (nI n) wm df q wd zs h ++ w3))) (vp_Sd (fun r : UInt64 => r = mnv 8 h n)) 0 0 (fun _ => False) := by
  refine Met.ofW (cc := cX2_meanAge) (maxL := 3) (ret := (some .double)) (by decide) rfl ?_
  intro p e s m args below meth c s₁ B hml hv
  obtain ⟨rfl, hP, hK⟩ := hv
  have hx := B.exec
  have hb := B.bytes
  have hr := B.returns
  have hts := atoms_spec (ws := wsX2_meanAge) B.pre
  have hown : s.vm.findClass RX2 = some m.cls := findClass_of_methodNamed B.named
  have hlocks := B.notSynchronized
  have hl := lv_entry ([.ref x]) (n := 3) (Nat.le_of_ble_eq_true rfl)
  rw [lg_entry_eq]
  generalize (lg_sl ([.ref x]) ++ List.replicate (3 - (lg_sl ([.ref x])).length) Slot.unset).toArray = ls at hl ⊢
  have hl : lv_has ls 3 [(0, .ref x)] := hl
  obtain ⟨m1, m2, m3⟩ := hm
  refine lv_aload_n hx hb dX2_meanAge_0 rfl (lv_at hl 0 rfl) ?_
  refine va_get (D := D) (ci := 2) (v := .ref r) (C := RX2) (T := TX2) (N := 4) hx hb hts (by decide +kernel) hown hK hP (0) rfl rfl 0 (by decide) (hts (.fieldLink RX2 10 "VinegarLoft" "row" "LVinegarLoft$Row;") (by decide +kernel)) (fun _ h9 => h9) rfl dX2_meanAge_1 ?_
  refine kr_d (W.runV (As := []) (rest := []) ⟨hx, hb, hml, hown, hts⟩ (metX1_allLitres l D r la bs cA n hn wm df q wd zs h m1) (cwV 0 hts gX2_meanAge_X1_allLitres rfl rfl rfl (by decide +kernel) ⟨Nat.le_of_ble_eq_true rfl, Nat.le_of_ble_eq_true rfl⟩) (prV 1 0 RX1 TX1 5 rfl rfl (vj_mP hP) (hK.sub [0] rfl)) rfl rfl hl.1 rfl (lv_room (Nat.le_of_ble_eq_true rfl)) dX2_meanAge_4 ⟨Nat.le_of_ble_eq_true rfl, Nat.le_of_ble_eq_true rfl⟩) ?_
  refine lv_dstore_n (lv' := [(1, .double (suL h n)), (0, .ref x)]) hx hb dX2_meanAge_7 rfl hl (by decide) rfl (fun ls hl => ?_)
  refine lv_dload_n hx hb dX2_meanAge_8 rfl (lv_at hl 0 rfl) ?_
  refine kd_0 hx hb dX2_meanAge_9 ?_
  refine kd_le (tgt := 26) hx hb dX2_meanAge_10 dX2_meanAge_11 (by decide) m2 (fun c10 => ?_) (fun c10 => ?_)
  · refine kd_0 hx hb dX2_meanAge_26 ?_
    exact W.dret hx hb hr (fun t ht hW => ⟨_, rfl, by unfold mnv; rw [if_neg c10], ht⟩) (fun q hq => absurd hq List.not_mem_nil) dX2_meanAge_27
  · refine lv_aload_n hx hb dX2_meanAge_14 rfl (lv_at hl 1 rfl) ?_
    refine va_get (D := D) (ci := 2) (v := .ref r) (C := RX2) (T := TX2) (N := 4) hx hb hts (by decide +kernel) hown hK hP (0) rfl rfl 0 (by decide) (hts (.fieldLink RX2 10 "VinegarLoft" "row" "LVinegarLoft$Row;") (by decide +kernel)) (fun _ h9 => h9) rfl dX2_meanAge_15 ?_
    refine kr_d (W.runV (As := []) (rest := []) ⟨hx, hb, hml, hown, hts⟩ (metX1_litresTimesAge l D r la bs cA n hn wm df q wd zs h (m3 c10).1) (cwV 0 hts gX2_meanAge_X1_litresTimesAge rfl rfl rfl (by decide +kernel) ⟨Nat.le_of_ble_eq_true rfl, Nat.le_of_ble_eq_true rfl⟩) (prV 1 0 RX1 TX1 5 rfl rfl (vj_mP hP) (hK.sub [0] rfl)) rfl rfl hl.1 rfl (lv_room (Nat.le_of_ble_eq_true rfl)) dX2_meanAge_18 ⟨Nat.le_of_ble_eq_true rfl, Nat.le_of_ble_eq_true rfl⟩) ?_
    refine lv_dload_n hx hb dX2_meanAge_21 rfl (lv_at hl 0 rfl) ?_
    refine lv_ddiv hx hb dX2_meanAge_22 (m3 c10).2 ?_
    refine lv_goto (tgt := 27) hx hb dX2_meanAge_23 (by decide) ?_
    exact W.dret hx hb hr (fun t ht hW => ⟨_, rfl, by unfold mnv; rw [if_pos c10], ht⟩) (fun q hq => absurd hq List.not_mem_nil) dX2_meanAge_27
set_option maxHeartbeats 4000000 in
set_option maxRecDepth 100000 in
theorem metX2_meanSugar (l : Launch) (D : va_G) (x r t d : Nat) (yg : Int32) (la : Nat) (bs : Nat → Nat) (cA cI : ClassId) (n : Nat) (hn : n ≤ 8) (wm df : Int32) (q : UInt64) (wd zs : Nat → Int32) (h : Nat → UInt64) (w3 : va_W) (hm : mnok 24 h n) : Met l yX2_meanSugar wsX2_meanSugar { frames := 1, cells := 0, slots := 0, locals := 23 } (Pr D [(cA, .object "VinegarLoft$Barrel"), (cI, .int)] [.ref x] ([(x, EX r t d yg)] ++ (rowW r la bs cA (nI n) wm df q wd zs h ++ w3))) (vp_Sd (fun r : UInt64 => r = mnv 24 h n)) 0 0 (fun _ => False) := by
  refine Met.ofW (cc := cX2_meanSugar) (maxL := 3) (ret := (some .double)) (by decide) rfl ?_
  intro p e s m args below meth c s₁ B hml hv
  obtain ⟨rfl, hP, hK⟩ := hv
  have hx := B.exec
  have hb := B.bytes
  have hr := B.returns
  have hts := atoms_spec (ws := wsX2_meanSugar) B.pre
  have hown : s.vm.findClass RX2 = some m.cls := findClass_of_methodNamed B.named
  have hlocks := B.notSynchronized
  have hl := lv_entry ([.ref x]) (n := 3) (Nat.le_of_ble_eq_true rfl)
  rw [lg_entry_eq]
  generalize (lg_sl ([.ref x]) ++ List.replicate (3 - (lg_sl ([.ref x])).length) Slot.unset).toArray = ls at hl ⊢
  have hl : lv_has ls 3 [(0, .ref x)] := hl
  obtain ⟨m1, m2, m3⟩ := hm
  refine lv_aload_n hx hb dX2_meanSugar_0 rfl (lv_at hl 0 rfl) ?_
  refine va_get (D := D) (ci := 2) (v := .ref r) (C := RX2) (T := TX2) (N := 4) hx hb hts (by decide +kernel) hown hK hP (0) rfl rfl 0 (by decide) (hts (.fieldLink RX2 10 "VinegarLoft" "row" "LVinegarLoft$Row;") (by decide +kernel)) (fun _ h9 => h9) rfl dX2_meanSugar_1 ?_
  refine kr_d (W.runV (As := []) (rest := []) ⟨hx, hb, hml, hown, hts⟩ (metX1_allLitres l D r la bs cA n hn wm df q wd zs h m1) (cwV 0 hts gX2_meanSugar_X1_allLitres rfl rfl rfl (by decide +kernel) ⟨Nat.le_of_ble_eq_true rfl, Nat.le_of_ble_eq_true rfl⟩) (prV 1 0 RX1 TX1 5 rfl rfl (vj_mP hP) (hK.sub [0] rfl)) rfl rfl hl.1 rfl (lv_room (Nat.le_of_ble_eq_true rfl)) dX2_meanSugar_4 ⟨Nat.le_of_ble_eq_true rfl, Nat.le_of_ble_eq_true rfl⟩) ?_
  refine lv_dstore_n (lv' := [(1, .double (suL h n)), (0, .ref x)]) hx hb dX2_meanSugar_7 rfl hl (by decide) rfl (fun ls hl => ?_)
  refine lv_dload_n hx hb dX2_meanSugar_8 rfl (lv_at hl 0 rfl) ?_
  refine kd_0 hx hb dX2_meanSugar_9 ?_
  refine kd_le (tgt := 26) hx hb dX2_meanSugar_10 dX2_meanSugar_11 (by decide) m2 (fun c10 => ?_) (fun c10 => ?_)
  · refine kd_0 hx hb dX2_meanSugar_26 ?_
    exact W.dret hx hb hr (fun t ht hW => ⟨_, rfl, by unfold mnv; rw [if_neg c10], ht⟩) (fun q hq => absurd hq List.not_mem_nil) dX2_meanSugar_27
  · refine lv_aload_n hx hb dX2_meanSugar_14 rfl (lv_at hl 1 rfl) ?_
    refine va_get (D := D) (ci := 2) (v := .ref r) (C := RX2) (T := TX2) (N := 4) hx hb hts (by decide +kernel) hown hK hP (0) rfl rfl 0 (by decide) (hts (.fieldLink RX2 10 "VinegarLoft" "row" "LVinegarLoft$Row;") (by decide +kernel)) (fun _ h9 => h9) rfl dX2_meanSugar_15 ?_
    refine kr_d (W.runV (As := []) (rest := []) ⟨hx, hb, hml, hown, hts⟩ (metX1_litresTimesSugar l D r la bs cA n hn wm df q wd zs h (m3 c10).1) (cwV 0 hts gX2_meanSugar_X1_litresTimesSugar rfl rfl rfl (by decide +kernel) ⟨Nat.le_of_ble_eq_true rfl, Nat.le_of_ble_eq_true rfl⟩) (prV 1 0 RX1 TX1 5 rfl rfl (vj_mP hP) (hK.sub [0] rfl)) rfl rfl hl.1 rfl (lv_room (Nat.le_of_ble_eq_true rfl)) dX2_meanSugar_18 ⟨Nat.le_of_ble_eq_true rfl, Nat.le_of_ble_eq_true rfl⟩) ?_
    refine lv_dload_n hx hb dX2_meanSugar_21 rfl (lv_at hl 0 rfl) ?_
    refine lv_ddiv hx hb dX2_meanSugar_22 (m3 c10).2 ?_
    refine lv_goto (tgt := 27) hx hb dX2_meanSugar_23 (by decide) ?_
    exact W.dret hx hb hr (fun t ht hW => ⟨_, rfl, by unfold mnv; rw [if_pos c10], ht⟩) (fun q hq => absurd hq List.not_mem_nil) dX2_meanSugar_27
set_option maxHeartbeats 4000000 in
set_option maxRecDepth 100000 in
theorem metX2_kindAt (l : Launch) (D : va_G) (a : UInt64) (k1 : FP.dcmp a 4625759767262920704 ≠ none) (k2 : FP.dcmp a 4627730092099895296 ≠ none) : Met l yX2_kindAt wsX2_kindAt { frames := 0, cells := 0, slots := 0, locals := 0 } (Pr D [] [.double a] ([])) (vp_Si (fun r : Int32 => r = nI (kndN a))) 0 0 (fun _ => False) := by
  refine Met.ofW (cc := cX2_kindAt) (maxL := 2) (ret := (some .int)) (by decide) rfl ?_
  intro p e s m args below meth c s₁ B hml hv
  obtain ⟨rfl, hP, hK⟩ := hv
  have hx := B.exec
  have hb := B.bytes
  have hr := B.returns
  have hts := atoms_spec (ws := wsX2_kindAt) B.pre
  have hown : s.vm.findClass RX2 = some m.cls := findClass_of_methodNamed B.named
  have hlocks := B.notSynchronized
  have hl := lv_entry ([.double a]) (n := 2) (Nat.le_of_ble_eq_true rfl)
  rw [lg_entry_eq]
  generalize (lg_sl ([.double a]) ++ List.replicate (2 - (lg_sl ([.double a])).length) Slot.unset).toArray = ls at hl ⊢
  have hl : lv_has ls 2 [(0, .double a)] := hl
  refine lv_dload_n hx hb dX2_kindAt_0 rfl (lv_at hl 0 rfl) ?_
  refine lv_ldc2d hx hb hown (hts (.constantDouble RX2 142 4625759767262920704) (by decide +kernel)) dX2_kindAt_1 ?_
  refine kd_ge (tgt := 10) hx hb dX2_kindAt_4 dX2_kindAt_5 (by decide) k1 (fun c4 => ?_) (fun c4 => ?_)
  · refine lv_dload_n hx hb dX2_kindAt_10 rfl (lv_at hl 0 rfl) ?_
    refine lv_ldc2d hx hb hown (hts (.constantDouble RX2 144 4627730092099895296) (by decide +kernel)) dX2_kindAt_11 ?_
    refine kd_ge (tgt := 22) hx hb dX2_kindAt_14 dX2_kindAt_15 (by decide) k2 (fun c14 => ?_) (fun c14 => ?_)
    · refine lv_iconst (v := 2) hx hb dX2_kindAt_22 (by decide) ?_
      exact W.iret hx hb hr (fun t ht hW => ⟨_, rfl, by unfold kndN; rw [if_neg c4, if_neg c14]; rfl, ht⟩) (fun q hq => absurd hq List.not_mem_nil) dX2_kindAt_23
    · refine lv_iconst (v := 1) hx hb dX2_kindAt_18 (by decide) ?_
      refine lv_goto (tgt := 23) hx hb dX2_kindAt_19 (by decide) ?_
      exact W.iret hx hb hr (fun t ht hW => ⟨_, rfl, by unfold kndN; rw [if_neg c4, if_pos c14]; rfl, ht⟩) (fun q hq => absurd hq List.not_mem_nil) dX2_kindAt_23
  · refine lv_iconst (v := 0) hx hb dX2_kindAt_8 (by decide) ?_
    exact W.iret hx hb hr (fun t ht hW => ⟨_, rfl, by unfold kndN; rw [if_pos c4]; rfl, ht⟩) (fun q hq => absurd hq List.not_mem_nil) dX2_kindAt_9
set_option maxHeartbeats 4000000 in
set_option maxRecDepth 100000 in
theorem metX2_topUp (l : Launch) (D : va_G) (sz : Nat) (x r t d : Nat) (yg : Int32) (la : Nat) (bs : Nat → Nat) (cA cI : ClassId) (n : Nat) (hn : n ≤ 8) (wm df : Int32) (q : UInt64) (wd zs : Nat → Int32) (h : Nat → UInt64) (w3 : va_W) (hk9 : took zs (n - 1) h 0) : Met l yX2_topUp wsX2_topUp { frames := 4, cells := 0, slots := 0, locals := 107 } (Pm D [(cA, .object "VinegarLoft$Barrel"), (cI, .int)] [.ref x] ([(x, EX r t d yg)] ++ (rowW r la bs cA (nI n) wm df q wd zs h ++ w3)) sz) (va_Qd (fun (r : UInt64) (_ : Unit) => r = toS zs (n - 1) h 0) (Bm D [(cA, .object "VinegarLoft$Barrel"), (cI, .int)] (va_A ([(x, EX r t d yg)] ++ (rowW r la bs cA (nI n) wm df q wd zs h ++ w3)) sz) ([(x, EX r t d yg)] ++ (rowW r la bs cA (nI n) wm df q wd zs (toH zs (n - 1) h) ++ w3))) (va_A ([(x, EX r t d yg)] ++ (rowW r la bs cA (nI n) wm df q wd zs h ++ w3)) sz)) 0 0 (va_A ([(x, EX r t d yg)] ++ (rowW r la bs cA (nI n) wm df q wd zs h ++ w3)) sz) := by
  refine Met.ofW (cc := cX2_topUp) (maxL := 1) (ret := (some .double)) (by decide) rfl ?_
  intro p e s m args below meth c s₁ B hml hv
  obtain ⟨rfl, hsz, hP, hK, hD0⟩ := hv
  have hx := B.exec
  have hb := B.bytes
  have hr := B.returns
  have hts := atoms_spec (ws := wsX2_topUp) B.pre
  have hown : s.vm.findClass RX2 = some m.cls := findClass_of_methodNamed B.named
  have hlocks := B.notSynchronized
  subst hsz
  have hD := hD0.self (sz := s.heap.size)
  generalize hAe : va_A ([(x, EX r t d yg)] ++ (rowW r la bs cA (nI n) wm df q wd zs h ++ w3)) s.heap.size = A at hD ⊢
  have hA : ∀ q : Nat, s.heap.size ≤ q → A q := fun q h => by rw [← hAe]; exact Or.inr h
  refine kW_H (fun H hH => ?_)
  have hP : va_P D vwCl ([(x, EX r t d yg)] ++ (rowW r la bs cA (nI n) wm df q wd zs h ++ w3)) H := by rw [hH]; exact hP
  have hS : va_S A s.heap H [] := by rw [hH]; exact va_S.rf
  have hl := lv_entry ([.ref x]) (n := 1) (Nat.le_of_ble_eq_true rfl)
  rw [lg_entry_eq]
  generalize (lg_sl ([.ref x]) ++ List.replicate (1 - (lg_sl ([.ref x])).length) Slot.unset).toArray = ls at hl ⊢
  have hl : lv_has ls 1 [(0, .ref x)] := hl
  refine lv_aload_n hx hb dX2_topUp_0 rfl (lv_at hl 0 rfl) ?_
  refine va_get (D := D) (ci := 2) (v := .ref r) (C := RX2) (T := TX2) (N := 4) hx hb hts (by decide +kernel) hown hK hP (0) rfl rfl 0 (by decide) (hts (.fieldLink RX2 10 "VinegarLoft" "row" "LVinegarLoft$Row;") (by decide +kernel)) (fun _ h9 => h9) rfl dX2_topUp_1 ?_
  refine kc_d (w1 := [(x, EX r t d yg)]) (w3 := w3) (va_runV (As := []) (rest := []) ⟨hx, hb, hml, hown, hts⟩ (metX1_passDown l D H.size r la bs cA n hn wm df q wd zs h hk9) (cwV 0 hts gX2_topUp_X1_passDown rfl rfl rfl (by decide +kernel) ⟨Nat.le_of_ble_eq_true rfl, Nat.le_of_ble_eq_true rfl⟩) (pmV 1 0 RX1 TX1 5 rfl rfl (vj_mP hP) (hK.sub [0] rfl) (vj_mD hD)) rfl rfl hl.1 rfl (lv_room (Nat.le_of_ble_eq_true rfl)) dX2_topUp_4 ⟨Nat.le_of_ble_eq_true rfl, Nat.le_of_ble_eq_true rfl⟩) hP hD hS hA (fun H locs hP hD hS => ?_)
  have hP : va_P D vwCl ([(x, EX r t d yg)] ++ (rowW r la bs cA (nI n) wm df q wd zs (toH zs (n - 1) h) ++ w3)) H := hP
  have hD : va_D A ([(x, EX r t d yg)] ++ (rowW r la bs cA (nI n) wm df q wd zs (toH zs (n - 1) h) ++ w3)) := hD
  exact W.dret hx hb hr (fun t ht hW => ⟨⟨_, (), rfl, rfl, by rw [ht]; exact hP, va_K.moved hW.alike hK, hD⟩, hS.F ht⟩) hS.2.2 dX2_topUp_7
set_option maxHeartbeats 4000000 in
set_option maxRecDepth 100000 in
theorem metX2_year (l : Launch) (D : va_G) (sz : Nat) (x r t d : Nat) (yg : Int32) (la : Nat) (bs : Nat → Nat) (cA cI : ClassId) (n : Nat) (hn : n ≤ 8) (wm df : Int32) (q : UInt64) (wd zs : Nat → Int32) (h : Nat → UInt64) (w3 : va_W) (hdr : drok wm) (hok : agok wd (drv wm) h n) (hN : NNr n (agH wd (drv wm) h n)) (hq : ∀ b, b < n → vf_n64 (FP.dmul 4598175219545276416 ((agH wd (drv wm) h n) b))) : Met l yX2_year wsX2_year { frames := 4, cells := 0, slots := 0, locals := 95 } (Pm D [(cA, .object "VinegarLoft$Barrel"), (cI, .int)] [.ref x] ([(x, EX r t d yg)] ++ (rowW r la bs cA (nI n) wm df q wd zs h ++ w3)) sz) (va_Qd (fun (r : UInt64) (_ : Unit) => r = agS wd (drv wm) h n) (Bm D [(cA, .object "VinegarLoft$Barrel"), (cI, .int)] (va_A ([(x, EX r t d yg)] ++ (rowW r la bs cA (nI n) wm df q wd zs h ++ w3)) sz) ([(x, EX r t d (yg + 1))] ++ (rowW r la bs cA (nI n) wm (encO (elO (agH wd (drv wm) h n) n)) (quv (agH wd (drv wm) h n) (elO (agH wd (drv wm) h n) n)) wd zs (agH wd (drv wm) h n) ++ w3))) (va_A ([(x, EX r t d yg)] ++ (rowW r la bs cA (nI n) wm df q wd zs h ++ w3)) sz)) 0 0 (va_A ([(x, EX r t d yg)] ++ (rowW r la bs cA (nI n) wm df q wd zs h ++ w3)) sz) := by
  refine Met.ofW (cc := cX2_year) (maxL := 1) (ret := (some .double)) (by decide) rfl ?_
  intro p e s m args below meth c s₁ B hml hv
  obtain ⟨rfl, hsz, hP, hK, hD0⟩ := hv
  have hx := B.exec
  have hb := B.bytes
  have hr := B.returns
  have hts := atoms_spec (ws := wsX2_year) B.pre
  have hown : s.vm.findClass RX2 = some m.cls := findClass_of_methodNamed B.named
  have hlocks := B.notSynchronized
  subst hsz
  have hD := hD0.self (sz := s.heap.size)
  generalize hAe : va_A ([(x, EX r t d yg)] ++ (rowW r la bs cA (nI n) wm df q wd zs h ++ w3)) s.heap.size = A at hD ⊢
  have hA : ∀ q : Nat, s.heap.size ≤ q → A q := fun q h => by rw [← hAe]; exact Or.inr h
  refine kW_H (fun H hH => ?_)
  have hP : va_P D vwCl ([(x, EX r t d yg)] ++ (rowW r la bs cA (nI n) wm df q wd zs h ++ w3)) H := by rw [hH]; exact hP
  have hS : va_S A s.heap H [] := by rw [hH]; exact va_S.rf
  have hl := lv_entry ([.ref x]) (n := 1) (Nat.le_of_ble_eq_true rfl)
  rw [lg_entry_eq]
  generalize (lg_sl ([.ref x]) ++ List.replicate (1 - (lg_sl ([.ref x])).length) Slot.unset).toArray = ls at hl ⊢
  have hl : lv_has ls 1 [(0, .ref x)] := hl
  refine lv_aload_n hx hb dX2_year_0 rfl (lv_at hl 0 rfl) ?_
  refine lv_dup hx hb dX2_year_1 rfl ?_
  refine va_get (D := D) (ci := 2) (v := .int yg) (C := RX2) (T := TX2) (N := 4) hx hb hts (by decide +kernel) hown hK hP (0) rfl rfl 3 (by decide) (hts (.fieldLink RX2 23 "VinegarLoft" "yearsGone" "I") (by decide +kernel)) (fun _ h9 => h9) rfl dX2_year_2 ?_
  refine lv_iconst (v := 1) hx hb dX2_year_5 (by decide) ?_
  refine lv_iadd hx hb dX2_year_6 ?_
  refine va_put (D := D) (ci := 2) (v := .int (yg + 1)) (ty := .int) (C := RX2) (T := TX2) (N := 4) hx hb hts (by decide +kernel) tyX2 tyX2_ok nmX2 hown hK hP hD hS (0) rfl rfl 3 (by decide) (hts (.fieldLink RX2 23 "VinegarLoft" "yearsGone" "I") (by decide +kernel)) (fun _ h9 => h9) rfl (by decide +kernel) rfl rfl (Nat.le_of_ble_eq_true rfl) dX2_year_7 (fun H locs hP hD hS => ?_)
  have hP : va_P D vwCl ([(x, EX r t d (yg + 1))] ++ (rowW r la bs cA (nI n) wm df q wd zs h ++ w3)) H := hP
  have hD : va_D A ([(x, EX r t d (yg + 1))] ++ (rowW r la bs cA (nI n) wm df q wd zs h ++ w3)) := hD
  refine lv_aload_n hx hb dX2_year_10 rfl (lv_at hl 0 rfl) ?_
  refine va_get (D := D) (ci := 2) (v := .ref r) (C := RX2) (T := TX2) (N := 4) hx hb hts (by decide +kernel) hown hK hP (0) rfl rfl 0 (by decide) (hts (.fieldLink RX2 10 "VinegarLoft" "row" "LVinegarLoft$Row;") (by decide +kernel)) (fun _ h9 => h9) rfl dX2_year_11 ?_
  refine kc_d (w1 := [(x, EX r t d (yg + 1))]) (w3 := w3) (va_runV (As := []) (rest := []) ⟨hx, hb, hml, hown, hts⟩ (metX1_ageAll l D H.size r la bs cA n hn wm df q wd zs h hdr hok hN hq) (cwV 0 hts gX2_year_X1_ageAll rfl rfl rfl (by decide +kernel) ⟨Nat.le_of_ble_eq_true rfl, Nat.le_of_ble_eq_true rfl⟩) (pmV 1 0 RX1 TX1 5 rfl rfl (vj_mP hP) (hK.sub [0] rfl) (vj_mD hD)) rfl rfl hl.1 rfl (lv_room (Nat.le_of_ble_eq_true rfl)) dX2_year_14 ⟨Nat.le_of_ble_eq_true rfl, Nat.le_of_ble_eq_true rfl⟩) hP hD hS hA (fun H locs hP hD hS => ?_)
  have hP : va_P D vwCl ([(x, EX r t d (yg + 1))] ++ (rowW r la bs cA (nI n) wm (encO (elO (agH wd (drv wm) h n) n)) (quv (agH wd (drv wm) h n) (elO (agH wd (drv wm) h n) n)) wd zs (agH wd (drv wm) h n) ++ w3)) H := hP
  have hD : va_D A ([(x, EX r t d (yg + 1))] ++ (rowW r la bs cA (nI n) wm (encO (elO (agH wd (drv wm) h n) n)) (quv (agH wd (drv wm) h n) (elO (agH wd (drv wm) h n) n)) wd zs (agH wd (drv wm) h n) ++ w3)) := hD
  exact W.dret hx hb hr (fun t ht hW => ⟨⟨_, (), rfl, rfl, by rw [ht]; exact hP, va_K.moved hW.alike hK, hD⟩, hS.F ht⟩) hS.2.2 dX2_year_17
theorem fa_nlt {a b : Int32} (h : ¬ a < b) : b ≤ a := by
  rw [Int32.le_iff_toInt_le]
  rw [Int32.lt_iff_toInt_lt] at h
  omega
theorem fa_nle {a b : Int32} (h : ¬ a ≤ b) : b < a := by
  rw [Int32.lt_iff_toInt_lt]
  rw [Int32.le_iff_toInt_le] at h
  omega
theorem nbadA1 {zs : Nat → Int32} {n : Nat} {x z : Int32} (h1 : ¬ x < 0) (h2 : x < 4) (h3 : ¬ z < 10) (h4 : z ≤ lgN zs n) : ¬ badA1 zs n x z := by
  rintro ((h | h) | (h | h))
  · exact h1 h
  · rw [Int32.le_iff_toInt_le] at h; rw [Int32.lt_iff_toInt_lt] at h2; omega
  · exact h3 h
  · rw [Int32.lt_iff_toInt_lt] at h; rw [Int32.le_iff_toInt_le] at h4; omega
theorem nbadR {lo hi x : Int32} (h1 : ¬ x < lo) (h2 : x ≤ hi) : ¬ badR lo hi x := by
  rintro (h | h)
  · exact h1 h
  · rw [Int32.lt_iff_toInt_lt] at h; rw [Int32.le_iff_toInt_le] at h2; omega
set_option maxHeartbeats 4000000 in
set_option maxRecDepth 100000 in
/-- add(wood, size) -/
theorem metX2_add (l : Launch) (hst : l.stackTraces = false) (D : va_G) (sz : Nat) (x r t d : Nat) (yg : Int32) (la : Nat) (bs : Nat → Nat) (cA cI : ClassId) (n : Nat) (hn : n ≤ 8) (wm df : Int32) (q : UInt64) (wd zs : Nat → Int32) (h : Nat → UInt64) (w3 : va_W) (x9 z9 : Int32)  : vx_Met l yX2_add wsX2_add { frames := 6, cells := 1, slots := 6, locals := 82 } (Pt D [(cA, .object "VinegarLoft$Barrel"), (cI, .int)] [.ref x, .int x9, .int z9] ([(x, EX r t d yg)] ++ (rowW r la bs cA (nI n) wm df q wd zs h ++ w3)) sz) (va_Qi (fun (r9 : Int32) (_ : Unit) => (¬ badA1 zs n x9 z9 ∧ n < 8) ∧ r9 = nI n) (Bm D [(cA, .object "VinegarLoft$Barrel"), (cI, .int)] (va_A ([(x, EX r t d yg)] ++ (rowW r la bs cA (nI n) wm df q wd zs h ++ w3)) sz) ([(x, EX r t d yg)] ++ (rowW r la bs cA (nI (n + 1)) wm df q (va_up wd n x9) (va_up zs n z9) (hset h n 0 0 0 0) ++ w3))) (va_A ([(x, EX r t d yg)] ++ (rowW r la bs cA (nI n) wm df q wd zs h ++ w3)) sz)) (XE (fun E => (E = xIAE ∧ badA1 zs n x9 z9) ∨ (E = xISE ∧ ¬ badA1 zs n x9 z9 ∧ ¬ n < 8)) D [(cA, .object "VinegarLoft$Barrel"), (cI, .int)] (va_A ([(x, EX r t d yg)] ++ (rowW r la bs cA (nI n) wm df q wd zs h ++ w3)) sz) ([(x, EX r t d yg)] ++ (rowW r la bs cA (nI n) wm df q wd zs h ++ w3))) 1 6 (va_A ([(x, EX r t d yg)] ++ (rowW r la bs cA (nI n) wm df q wd zs h ++ w3)) sz) := by
  refine vx_ofW (cc := cX2_add) (maxL := 3) (ret := (some .int)) (by decide) rfl ?_
  intro p e s m args below meth c s₁ B hml ht hv
  obtain ⟨rfl, hsz, hP, hK, hD0, hX⟩ := hv
  have hx := B.exec
  have hb := B.bytes
  have hr := B.returns
  have hts := atoms_spec (ws := wsX2_add) B.pre
  have hown : s.vm.findClass RX2 = some m.cls := findClass_of_methodNamed B.named
  have hlocks := B.notSynchronized
  subst hsz
  have hD := hD0.self (sz := s.heap.size)
  generalize hAe : va_A ([(x, EX r t d yg)] ++ (rowW r la bs cA (nI n) wm df q wd zs h ++ w3)) s.heap.size = A at hD hX ⊢
  have hA : ∀ q : Nat, s.heap.size ≤ q → A q := fun q h => by rw [← hAe]; exact Or.inr h
  refine kW_H (fun H hH => ?_)
  have hP : va_P D vwCl ([(x, EX r t d yg)] ++ (rowW r la bs cA (nI n) wm df q wd zs h ++ w3)) H := by rw [hH]; exact hP
  have hS : va_S A s.heap H [] := by rw [hH]; exact va_S.rf
  have hl := lv_entry ([.ref x, .int x9, .int z9]) (n := 3) (Nat.le_of_ble_eq_true rfl)
  rw [lg_entry_eq]
  generalize (lg_sl ([.ref x, .int x9, .int z9]) ++ List.replicate (3 - (lg_sl ([.ref x, .int x9, .int z9])).length) Slot.unset).toArray = ls at hl ⊢
  have hl : lv_has ls 3 [(0, .ref x), (1, .int x9), (2, .int z9)] := hl
  refine lv_iload_n hx hb dX2_add_0 rfl (lv_at hl 1 rfl) ?_
  refine lv_if_lt (tgt := 9) hx hb dX2_add_1 (by decide) (fun c1 => ?_) (fun c1 => ?_)
  · exact kx_throw (ik := 27) (is := 29) (ic := 31) (cls := xIAE) (text := "no such wood") hx hb hst hown hlocks (by decide) (hts (.classLink RX2 27 xIAE) (by decide +kernel)) (hts (.initialized xIAE) (by decide +kernel)) (by decide) (fun w h9 => hts w (List.mem_cons_of_mem _ (List.mem_append_left _ (List.mem_append_right _ h9)))) (by decide +kernel) (by decide +kernel) hX hS (hl.1.trans hml.symm) ht dX2_add_9 dX2_add_12 dX2_add_13 dX2_add_15 dX2_add_18 ⟨Nat.le_of_ble_eq_true rfl, Nat.le_of_ble_eq_true rfl, Nat.le_of_ble_eq_true rfl, Nat.le_of_ble_eq_true rfl⟩ (Or.inl ⟨rfl, Or.inl (Or.inl c1)⟩) hP hK hD (fun q h => h) (Nat.le_of_ble_eq_true rfl) (Nat.le_of_ble_eq_true rfl)
  · refine lv_iload_n hx hb dX2_add_4 rfl (lv_at hl 1 rfl) ?_
    refine lv_iconst (v := 4) hx hb dX2_add_5 (by decide) ?_
    refine lv_icmp_lt (tgt := 19) hx hb dX2_add_6 (by decide) (fun c6 => ?_) (fun c6 => ?_)
    · refine lv_iload_n hx hb dX2_add_19 rfl (lv_at hl 2 rfl) ?_
      refine lv_bipush (v := 10) hx hb dX2_add_20 (by decide) ?_
      refine lv_icmp_lt (tgt := 36) hx hb dX2_add_22 (by decide) (fun c22 => ?_) (fun c22 => ?_)
      · exact kx_throw (ik := 27) (is := 38) (ic := 31) (cls := xIAE) (text := "size out of range") hx hb hst hown hlocks (by decide) (hts (.classLink RX2 27 xIAE) (by decide +kernel)) (hts (.initialized xIAE) (by decide +kernel)) (by decide) (fun w h9 => hts w (List.mem_cons_of_mem _ (List.mem_append_left _ (List.mem_append_right _ h9)))) (by decide +kernel) (by decide +kernel) hX hS (hl.1.trans hml.symm) ht dX2_add_36 dX2_add_39 dX2_add_40 dX2_add_42 dX2_add_45 ⟨Nat.le_of_ble_eq_true rfl, Nat.le_of_ble_eq_true rfl, Nat.le_of_ble_eq_true rfl, Nat.le_of_ble_eq_true rfl⟩ (Or.inl ⟨rfl, Or.inr (Or.inl c22)⟩) hP hK hD (fun q h => h) (Nat.le_of_ble_eq_true rfl) (Nat.le_of_ble_eq_true rfl)
      · refine lv_iload_n hx hb dX2_add_25 rfl (lv_at hl 2 rfl) ?_
        refine lv_aload_n hx hb dX2_add_26 rfl (lv_at hl 0 rfl) ?_
        refine va_get (D := D) (ci := 2) (v := .ref r) (C := RX2) (T := TX2) (N := 4) hx hb hts (by decide +kernel) hown hK hP (0) rfl rfl 0 (by decide) (hts (.fieldLink RX2 10 "VinegarLoft" "row" "LVinegarLoft$Row;") (by decide +kernel)) (fun _ h9 => h9) rfl dX2_add_27 ?_
        refine kr_i (W.runV (As := []) (rest := [.int z9]) ⟨hx, hb, hml, hown, hts⟩ (metX1_largestNext l D r la bs cA n hn wm df q wd zs h) (cwV 0 hts gX2_add_X1_largestNext rfl rfl rfl (by decide +kernel) ⟨Nat.le_of_ble_eq_true rfl, Nat.le_of_ble_eq_true rfl⟩) (prV 1 0 RX1 TX1 5 rfl rfl (vj_mP hP) (hK.sub [0] rfl)) rfl rfl hl.1 rfl (lv_room (Nat.le_of_ble_eq_true rfl)) dX2_add_30 ⟨Nat.le_of_ble_eq_true rfl, Nat.le_of_ble_eq_true rfl⟩) ?_
        refine lv_icmp_le (tgt := 46) hx hb dX2_add_33 (by decide) (fun c33 => ?_) (fun c33 => ?_)
        · refine lv_aload_n hx hb dX2_add_46 rfl (lv_at hl 0 rfl) ?_
          refine va_get (D := D) (ci := 2) (v := .ref r) (C := RX2) (T := TX2) (N := 4) hx hb hts (by decide +kernel) hown hK hP (0) rfl rfl 0 (by decide) (hts (.fieldLink RX2 10 "VinegarLoft" "row" "LVinegarLoft$Row;") (by decide +kernel)) (fun _ h9 => h9) rfl dX2_add_47 ?_
          refine kr_i (W.runV (As := []) (rest := []) ⟨hx, hb, hml, hown, hts⟩ (metX1_isComplete l D r la bs cA n hn wm df q wd zs h) (cwV 0 hts gX2_add_X1_isComplete rfl rfl rfl (by decide +kernel) ⟨Nat.le_of_ble_eq_true rfl, Nat.le_of_ble_eq_true rfl⟩) (prV 1 0 RX1 TX1 5 rfl rfl (vj_mP hP) (hK.sub [0] rfl)) rfl rfl hl.1 rfl (lv_room (Nat.le_of_ble_eq_true rfl)) dX2_add_50 ⟨Nat.le_of_ble_eq_true rfl, Nat.le_of_ble_eq_true rfl⟩) ?_
          refine lv_if_eq (tgt := 66) hx hb dX2_add_53 (by decide) (fun c53 => ?_) (fun c53 => ?_)
          · refine lv_aload_n hx hb dX2_add_66 rfl (lv_at hl 0 rfl) ?_
            refine va_get (D := D) (ci := 2) (v := .ref r) (C := RX2) (T := TX2) (N := 4) hx hb hts (by decide +kernel) hown hK hP (0) rfl rfl 0 (by decide) (hts (.fieldLink RX2 10 "VinegarLoft" "row" "LVinegarLoft$Row;") (by decide +kernel)) (fun _ h9 => h9) rfl dX2_add_67 ?_
            refine lv_iload_n hx hb dX2_add_70 rfl (lv_at hl 1 rfl) ?_
            refine lv_iload_n hx hb dX2_add_71 rfl (lv_at hl 2 rfl) ?_
            have hn8 : n < 8 := Classical.byContradiction fun h9 => by have h8 : ¬ nI n < 8 := (fun h8 => h9 ((nI_ltI (a := n) (b := 8) (by omega) (by decide)).mp h8)); rw [if_neg h8] at c53; exact absurd c53 (by decide)
            refine kc_i (w1 := [(x, EX r t d yg)]) (w3 := w3) (va_runV (As := [.int x9, .int z9]) (rest := []) ⟨hx, hb, hml, hown, hts⟩ (metX1_putBehind l D H.size r la bs cA n hn wm df q wd zs h hn8 x9 z9) (cwV 2 hts gX2_add_X1_putBehind rfl rfl rfl (by decide +kernel) ⟨Nat.le_of_ble_eq_true rfl, Nat.le_of_ble_eq_true rfl⟩) (pmV 1 0 RX1 TX1 5 rfl rfl (vj_mP hP) (hK.sub [0] rfl) (vj_mD hD)) rfl rfl hl.1 rfl (lv_room (Nat.le_of_ble_eq_true rfl)) dX2_add_72 ⟨Nat.le_of_ble_eq_true rfl, Nat.le_of_ble_eq_true rfl⟩) hP hD hS hA (fun H locs hP hD hS => ?_)
            have hP : va_P D vwCl ([(x, EX r t d yg)] ++ (rowW r la bs cA (nI (n + 1)) wm df q (va_up wd n x9) (va_up zs n z9) (hset h n 0 0 0 0) ++ w3)) H := hP
            have hD : va_D A ([(x, EX r t d yg)] ++ (rowW r la bs cA (nI (n + 1)) wm df q (va_up wd n x9) (va_up zs n z9) (hset h n 0 0 0 0) ++ w3)) := hD
            refine vx_ret ?_
            refine W.widen (k := 1) (n := 6) (Nat.le_of_ble_eq_true rfl) (Nat.le_of_ble_eq_true rfl) ?_
            exact W.iret hx hb hr (fun t9 ht9 hW => ⟨⟨_, (), rfl, ⟨⟨nbadA1 c1 c6 c22 c33, hn8⟩, rfl⟩, by rw [ht9]; exact hP, va_K.moved hW.alike hK, hD⟩, hS.F ht9⟩) hS.2.2 dX2_add_75
          · exact kx_throw (ik := 44) (is := 46) (ic := 48) (cls := xISE) (text := "the row has all its barrels") hx hb hst hown hlocks (by decide) (hts (.classLink RX2 44 xISE) (by decide +kernel)) (hts (.initialized xISE) (by decide +kernel)) (by decide) (fun w h9 => hts w (List.mem_cons_of_mem _ (List.mem_append_right _ h9))) (by decide +kernel) (by decide +kernel) hX hS (hl.1.trans hml.symm) ht dX2_add_56 dX2_add_59 dX2_add_60 dX2_add_62 dX2_add_65 ⟨Nat.le_of_ble_eq_true rfl, Nat.le_of_ble_eq_true rfl, Nat.le_of_ble_eq_true rfl, Nat.le_of_ble_eq_true rfl⟩ (Or.inr ⟨rfl, nbadA1 c1 c6 c22 c33, fun h9 => c53 (if_pos (nI_lt (a := n) (b := 8) h9 (by decide)))⟩) hP hK hD (fun q h => h) (Nat.le_of_ble_eq_true rfl) (Nat.le_of_ble_eq_true rfl)
        · exact kx_throw (ik := 27) (is := 38) (ic := 31) (cls := xIAE) (text := "size out of range") hx hb hst hown hlocks (by decide) (hts (.classLink RX2 27 xIAE) (by decide +kernel)) (hts (.initialized xIAE) (by decide +kernel)) (by decide) (fun w h9 => hts w (List.mem_cons_of_mem _ (List.mem_append_left _ (List.mem_append_right _ h9)))) (by decide +kernel) (by decide +kernel) hX hS (hl.1.trans hml.symm) ht dX2_add_36 dX2_add_39 dX2_add_40 dX2_add_42 dX2_add_45 ⟨Nat.le_of_ble_eq_true rfl, Nat.le_of_ble_eq_true rfl, Nat.le_of_ble_eq_true rfl, Nat.le_of_ble_eq_true rfl⟩ (Or.inl ⟨rfl, Or.inr (Or.inr (fa_nle c33))⟩) hP hK hD (fun q h => h) (Nat.le_of_ble_eq_true rfl) (Nat.le_of_ble_eq_true rfl)
    · exact kx_throw (ik := 27) (is := 29) (ic := 31) (cls := xIAE) (text := "no such wood") hx hb hst hown hlocks (by decide) (hts (.classLink RX2 27 xIAE) (by decide +kernel)) (hts (.initialized xIAE) (by decide +kernel)) (by decide) (fun w h9 => hts w (List.mem_cons_of_mem _ (List.mem_append_left _ (List.mem_append_right _ h9)))) (by decide +kernel) (by decide +kernel) hX hS (hl.1.trans hml.symm) ht dX2_add_9 dX2_add_12 dX2_add_13 dX2_add_15 dX2_add_18 ⟨Nat.le_of_ble_eq_true rfl, Nat.le_of_ble_eq_true rfl, Nat.le_of_ble_eq_true rfl, Nat.le_of_ble_eq_true rfl⟩ (Or.inl ⟨rfl, Or.inl (Or.inr (fa_nlt c6))⟩) hP hK hD (fun q h => h) (Nat.le_of_ble_eq_true rfl) (Nat.le_of_ble_eq_true rfl)
set_option maxHeartbeats 4000000 in
set_option maxRecDepth 100000 in
/-- fill(litres) -/
theorem metX2_fill (l : Launch) (hst : l.stackTraces = false) (D : va_G) (sz : Nat) (x r t d : Nat) (yg : Int32) (la : Nat) (bs : Nat → Nat) (cA cI : ClassId) (n : Nat) (hn : n ≤ 8) (wm df : Int32) (q : UInt64) (wd zs : Nat → Int32) (h : Nat → UInt64) (w3 : va_W) (x9 : Int32) (hp : ¬ badR 1 100 x9 → n ≠ 0 → pook (zs 0) h (FP.i2d x9)) : vx_Met l yX2_fill wsX2_fill { frames := 6, cells := 1, slots := 6, locals := 83 } (Pt D [(cA, .object "VinegarLoft$Barrel"), (cI, .int)] [.ref x, .int x9] ([(x, EX r t d yg)] ++ (rowW r la bs cA (nI n) wm df q wd zs h ++ w3)) sz) (va_Qd (fun (r9 : UInt64) (_ : Unit) => (¬ badR 1 100 x9) ∧ r9 = pmR n zs h (FP.i2d x9)) (Bm D [(cA, .object "VinegarLoft$Barrel"), (cI, .int)] (va_A ([(x, EX r t d yg)] ++ (rowW r la bs cA (nI n) wm df q wd zs h ++ w3)) sz) ([(x, EX r t d yg)] ++ (rowW r la bs cA (nI n) wm df q wd zs (pmH n zs h (FP.i2d x9)) ++ w3))) (va_A ([(x, EX r t d yg)] ++ (rowW r la bs cA (nI n) wm df q wd zs h ++ w3)) sz)) (XE (fun E => E = xIAE ∧ badR 1 100 x9) D [(cA, .object "VinegarLoft$Barrel"), (cI, .int)] (va_A ([(x, EX r t d yg)] ++ (rowW r la bs cA (nI n) wm df q wd zs h ++ w3)) sz) ([(x, EX r t d yg)] ++ (rowW r la bs cA (nI n) wm df q wd zs h ++ w3))) 1 6 (va_A ([(x, EX r t d yg)] ++ (rowW r la bs cA (nI n) wm df q wd zs h ++ w3)) sz) := by
  refine vx_ofW (cc := cX2_fill) (maxL := 2) (ret := (some .double)) (by decide) rfl ?_
  intro p e s m args below meth c s₁ B hml ht hv
  obtain ⟨rfl, hsz, hP, hK, hD0, hX⟩ := hv
  have hx := B.exec
  have hb := B.bytes
  have hr := B.returns
  have hts := atoms_spec (ws := wsX2_fill) B.pre
  have hown : s.vm.findClass RX2 = some m.cls := findClass_of_methodNamed B.named
  have hlocks := B.notSynchronized
  subst hsz
  have hD := hD0.self (sz := s.heap.size)
  generalize hAe : va_A ([(x, EX r t d yg)] ++ (rowW r la bs cA (nI n) wm df q wd zs h ++ w3)) s.heap.size = A at hD hX ⊢
  have hA : ∀ q : Nat, s.heap.size ≤ q → A q := fun q h => by rw [← hAe]; exact Or.inr h
  refine kW_H (fun H hH => ?_)
  have hP : va_P D vwCl ([(x, EX r t d yg)] ++ (rowW r la bs cA (nI n) wm df q wd zs h ++ w3)) H := by rw [hH]; exact hP
  have hS : va_S A s.heap H [] := by rw [hH]; exact va_S.rf
  have hl := lv_entry ([.ref x, .int x9]) (n := 2) (Nat.le_of_ble_eq_true rfl)
  rw [lg_entry_eq]
  generalize (lg_sl ([.ref x, .int x9]) ++ List.replicate (2 - (lg_sl ([.ref x, .int x9])).length) Slot.unset).toArray = ls at hl ⊢
  have hl : lv_has ls 2 [(0, .ref x), (1, .int x9)] := hl
  refine lv_iload_n hx hb dX2_fill_0 rfl (lv_at hl 1 rfl) ?_
  refine lv_iconst (v := 1) hx hb dX2_fill_1 (by decide) ?_
  refine lv_icmp_lt (tgt := 11) hx hb dX2_fill_2 (by decide) (fun c2 => ?_) (fun c2 => ?_)
  · exact kx_throw (ik := 27) (is := 53) (ic := 31) (cls := xIAE) (text := "litres out of range") hx hb hst hown hlocks (by decide) (hts (.classLink RX2 27 xIAE) (by decide +kernel)) (hts (.initialized xIAE) (by decide +kernel)) (by decide) (fun w h9 => hts w (List.mem_cons_of_mem _ (List.mem_append_right _ h9))) (by decide +kernel) (by decide +kernel) hX hS (hl.1.trans hml.symm) ht dX2_fill_11 dX2_fill_14 dX2_fill_15 dX2_fill_17 dX2_fill_20 ⟨Nat.le_of_ble_eq_true rfl, Nat.le_of_ble_eq_true rfl, Nat.le_of_ble_eq_true rfl, Nat.le_of_ble_eq_true rfl⟩ (⟨rfl, Or.inl c2⟩) hP hK hD (fun q h => h) (Nat.le_of_ble_eq_true rfl) (Nat.le_of_ble_eq_true rfl)
  · refine lv_iload_n hx hb dX2_fill_5 rfl (lv_at hl 1 rfl) ?_
    refine lv_bipush (v := 100) hx hb dX2_fill_6 (by decide) ?_
    refine lv_icmp_le (tgt := 21) hx hb dX2_fill_8 (by decide) (fun c8 => ?_) (fun c8 => ?_)
    · refine lv_aload_n hx hb dX2_fill_21 rfl (lv_at hl 0 rfl) ?_
      refine va_get (D := D) (ci := 2) (v := .ref r) (C := RX2) (T := TX2) (N := 4) hx hb hts (by decide +kernel) hown hK hP (0) rfl rfl 0 (by decide) (hts (.fieldLink RX2 10 "VinegarLoft" "row" "LVinegarLoft$Row;") (by decide +kernel)) (fun _ h9 => h9) rfl dX2_fill_22 ?_
      refine lv_iload_n hx hb dX2_fill_25 rfl (lv_at hl 1 rfl) ?_
      refine kc_d (w1 := [(x, EX r t d yg)]) (w3 := w3) (va_runV (As := [.int x9]) (rest := []) ⟨hx, hb, hml, hown, hts⟩ (metX1_pourMust l D H.size r la bs cA n hn wm df q wd zs h x9 (hp (nbadR c2 c8))) (cwV 1 hts gX2_fill_X1_pourMust rfl rfl rfl (by decide +kernel) ⟨Nat.le_of_ble_eq_true rfl, Nat.le_of_ble_eq_true rfl⟩) (pmV 1 0 RX1 TX1 5 rfl rfl (vj_mP hP) (hK.sub [0] rfl) (vj_mD hD)) rfl rfl hl.1 rfl (lv_room (Nat.le_of_ble_eq_true rfl)) dX2_fill_26 ⟨Nat.le_of_ble_eq_true rfl, Nat.le_of_ble_eq_true rfl⟩) hP hD hS hA (fun H locs hP hD hS => ?_)
      have hP : va_P D vwCl ([(x, EX r t d yg)] ++ (rowW r la bs cA (nI n) wm df q wd zs (pmH n zs h (FP.i2d x9)) ++ w3)) H := hP
      have hD : va_D A ([(x, EX r t d yg)] ++ (rowW r la bs cA (nI n) wm df q wd zs (pmH n zs h (FP.i2d x9)) ++ w3)) := hD
      refine vx_ret ?_
      refine W.widen (k := 1) (n := 6) (Nat.le_of_ble_eq_true rfl) (Nat.le_of_ble_eq_true rfl) ?_
      exact W.dret hx hb hr (fun t9 ht9 hW => ⟨⟨_, (), rfl, ⟨(nbadR c2 c8), rfl⟩, by rw [ht9]; exact hP, va_K.moved hW.alike hK, hD⟩, hS.F ht9⟩) hS.2.2 dX2_fill_29
    · exact kx_throw (ik := 27) (is := 53) (ic := 31) (cls := xIAE) (text := "litres out of range") hx hb hst hown hlocks (by decide) (hts (.classLink RX2 27 xIAE) (by decide +kernel)) (hts (.initialized xIAE) (by decide +kernel)) (by decide) (fun w h9 => hts w (List.mem_cons_of_mem _ (List.mem_append_right _ h9))) (by decide +kernel) (by decide +kernel) hX hS (hl.1.trans hml.symm) ht dX2_fill_11 dX2_fill_14 dX2_fill_15 dX2_fill_17 dX2_fill_20 ⟨Nat.le_of_ble_eq_true rfl, Nat.le_of_ble_eq_true rfl, Nat.le_of_ble_eq_true rfl, Nat.le_of_ble_eq_true rfl⟩ (⟨rfl, Or.inr (fa_nle c8)⟩) hP hK hD (fun q h => h) (Nat.le_of_ble_eq_true rfl) (Nat.le_of_ble_eq_true rfl)
set_option maxHeartbeats 4000000 in
set_option maxRecDepth 100000 in
/-- setWarmth(degrees) -/
theorem metX2_setWarmth (l : Launch) (hst : l.stackTraces = false) (D : va_G) (sz : Nat) (x r t d : Nat) (yg : Int32) (la : Nat) (bs : Nat → Nat) (cA cI : ClassId) (n : Nat) (hn : n ≤ 8) (wm df : Int32) (q : UInt64) (wd zs : Nat → Int32) (h : Nat → UInt64) (w3 : va_W) (x9 : Int32)  : vx_Met l yX2_setWarmth wsX2_setWarmth { frames := 6, cells := 1, slots := 6, locals := 82 } (Pt D [(cA, .object "VinegarLoft$Barrel"), (cI, .int)] [.ref x, .int x9] ([(x, EX r t d yg)] ++ (rowW r la bs cA (nI n) wm df q wd zs h ++ w3)) sz) (va_Qv (fun (_ : Unit) => ¬ badR 0 40 x9) (Bm D [(cA, .object "VinegarLoft$Barrel"), (cI, .int)] (va_A ([(x, EX r t d yg)] ++ (rowW r la bs cA (nI n) wm df q wd zs h ++ w3)) sz) ([(x, EX r t d yg)] ++ (rowW r la bs cA (nI n) x9 df q wd zs h ++ w3))) (va_A ([(x, EX r t d yg)] ++ (rowW r la bs cA (nI n) wm df q wd zs h ++ w3)) sz)) (XE (fun E => E = xIAE ∧ badR 0 40 x9) D [(cA, .object "VinegarLoft$Barrel"), (cI, .int)] (va_A ([(x, EX r t d yg)] ++ (rowW r la bs cA (nI n) wm df q wd zs h ++ w3)) sz) ([(x, EX r t d yg)] ++ (rowW r la bs cA (nI n) wm df q wd zs h ++ w3))) 1 6 (va_A ([(x, EX r t d yg)] ++ (rowW r la bs cA (nI n) wm df q wd zs h ++ w3)) sz) := by
  refine vx_ofW (cc := cX2_setWarmth) (maxL := 2) (ret := none) (by decide) rfl ?_
  intro p e s m args below meth c s₁ B hml ht hv
  obtain ⟨rfl, hsz, hP, hK, hD0, hX⟩ := hv
  have hx := B.exec
  have hb := B.bytes
  have hr := B.returns
  have hts := atoms_spec (ws := wsX2_setWarmth) B.pre
  have hown : s.vm.findClass RX2 = some m.cls := findClass_of_methodNamed B.named
  have hlocks := B.notSynchronized
  subst hsz
  have hD := hD0.self (sz := s.heap.size)
  generalize hAe : va_A ([(x, EX r t d yg)] ++ (rowW r la bs cA (nI n) wm df q wd zs h ++ w3)) s.heap.size = A at hD hX ⊢
  have hA : ∀ q : Nat, s.heap.size ≤ q → A q := fun q h => by rw [← hAe]; exact Or.inr h
  refine kW_H (fun H hH => ?_)
  have hP : va_P D vwCl ([(x, EX r t d yg)] ++ (rowW r la bs cA (nI n) wm df q wd zs h ++ w3)) H := by rw [hH]; exact hP
  have hS : va_S A s.heap H [] := by rw [hH]; exact va_S.rf
  have hl := lv_entry ([.ref x, .int x9]) (n := 2) (Nat.le_of_ble_eq_true rfl)
  rw [lg_entry_eq]
  generalize (lg_sl ([.ref x, .int x9]) ++ List.replicate (2 - (lg_sl ([.ref x, .int x9])).length) Slot.unset).toArray = ls at hl ⊢
  have hl : lv_has ls 2 [(0, .ref x), (1, .int x9)] := hl
  refine lv_iload_n hx hb dX2_setWarmth_0 rfl (lv_at hl 1 rfl) ?_
  refine lv_if_lt (tgt := 10) hx hb dX2_setWarmth_1 (by decide) (fun c1 => ?_) (fun c1 => ?_)
  · exact kx_throw (ik := 27) (is := 95) (ic := 31) (cls := xIAE) (text := "degrees out of range") hx hb hst hown hlocks (by decide) (hts (.classLink RX2 27 xIAE) (by decide +kernel)) (hts (.initialized xIAE) (by decide +kernel)) (by decide) (fun w h9 => hts w (List.mem_cons_of_mem _ (List.mem_append_right _ h9))) (by decide +kernel) (by decide +kernel) hX hS (hl.1.trans hml.symm) ht dX2_setWarmth_10 dX2_setWarmth_13 dX2_setWarmth_14 dX2_setWarmth_16 dX2_setWarmth_19 ⟨Nat.le_of_ble_eq_true rfl, Nat.le_of_ble_eq_true rfl, Nat.le_of_ble_eq_true rfl, Nat.le_of_ble_eq_true rfl⟩ (⟨rfl, Or.inl c1⟩) hP hK hD (fun q h => h) (Nat.le_of_ble_eq_true rfl) (Nat.le_of_ble_eq_true rfl)
  · refine lv_iload_n hx hb dX2_setWarmth_4 rfl (lv_at hl 1 rfl) ?_
    refine lv_bipush (v := 40) hx hb dX2_setWarmth_5 (by decide) ?_
    refine lv_icmp_le (tgt := 20) hx hb dX2_setWarmth_7 (by decide) (fun c7 => ?_) (fun c7 => ?_)
    · refine lv_aload_n hx hb dX2_setWarmth_20 rfl (lv_at hl 0 rfl) ?_
      refine va_get (D := D) (ci := 2) (v := .ref r) (C := RX2) (T := TX2) (N := 4) hx hb hts (by decide +kernel) hown hK hP (0) rfl rfl 0 (by decide) (hts (.fieldLink RX2 10 "VinegarLoft" "row" "LVinegarLoft$Row;") (by decide +kernel)) (fun _ h9 => h9) rfl dX2_setWarmth_21 ?_
      refine lv_iload_n hx hb dX2_setWarmth_24 rfl (lv_at hl 1 rfl) ?_
      refine va_put (D := D) (ci := 1) (v := .int x9) (ty := .int) (C := RX1) (T := TX1) (N := 5) hx hb hts (by decide +kernel) tyX1 tyX1_ok nmX1 hown hK hP hD hS (1) rfl rfl 2 (by decide) (hts (.fieldLink RX2 97 "VinegarLoft$Row" "warmth" "I") (by decide +kernel)) (fun _ h9 => h9) rfl (by decide +kernel) rfl rfl (Nat.le_of_ble_eq_true rfl) dX2_setWarmth_25 (fun H locs hP hD hS => ?_)
      have hP : va_P D vwCl ([(x, EX r t d yg)] ++ (rowW r la bs cA (nI n) x9 df q wd zs h ++ w3)) H := hP
      have hD : va_D A ([(x, EX r t d yg)] ++ (rowW r la bs cA (nI n) x9 df q wd zs h ++ w3)) := hD
      refine vx_ret ?_
      refine W.widen (k := 1) (n := 6) (Nat.le_of_ble_eq_true rfl) (Nat.le_of_ble_eq_true rfl) ?_
      exact W.vret hx hb hr (fun t9 ht9 hW => ⟨⟨(), rfl, (nbadR c1 c7), by rw [ht9]; exact hP, va_K.moved hW.alike hK, hD⟩, hS.F ht9⟩) hS.2.2 dX2_setWarmth_28
    · exact kx_throw (ik := 27) (is := 95) (ic := 31) (cls := xIAE) (text := "degrees out of range") hx hb hst hown hlocks (by decide) (hts (.classLink RX2 27 xIAE) (by decide +kernel)) (hts (.initialized xIAE) (by decide +kernel)) (by decide) (fun w h9 => hts w (List.mem_cons_of_mem _ (List.mem_append_right _ h9))) (by decide +kernel) (by decide +kernel) hX hS (hl.1.trans hml.symm) ht dX2_setWarmth_10 dX2_setWarmth_13 dX2_setWarmth_14 dX2_setWarmth_16 dX2_setWarmth_19 ⟨Nat.le_of_ble_eq_true rfl, Nat.le_of_ble_eq_true rfl, Nat.le_of_ble_eq_true rfl, Nat.le_of_ble_eq_true rfl⟩ (⟨rfl, Or.inr (fa_nle c7)⟩) hP hK hD (fun q h => h) (Nat.le_of_ble_eq_true rfl) (Nat.le_of_ble_eq_true rfl)
set_option maxHeartbeats 4000000 in
set_option maxRecDepth 100000 in
/-- bottles(kind) -/
theorem metX2_bottles (l : Launch) (hst : l.stackTraces = false) (D : va_G) (sz : Nat) (x r t d : Nat) (yg : Int32) (la : Nat) (bs : Nat → Nat) (cA cI : ClassId) (n : Nat) (hn : n ≤ 8) (wm df : Int32) (q : UInt64) (wd zs : Nat → Int32) (h : Nat → UInt64) (w4 : va_W) (dk : Nat → Int32) (x9 : Int32)  : vx_Met l yX2_bottles wsX2_bottles { frames := 6, cells := 1, slots := 6, locals := 82 } (Pt D [(cA, .object "VinegarLoft$Barrel"), (cI, .int)] [.ref x, .int x9] ([(x, EX r t d yg)] ++ (rowW r la bs cA (nI n) wm df q wd zs h ++ (w4 ++ [(d, ED cI dk)]))) sz) (va_Qi (fun (r9 : Int32) (_ : Unit) => (¬ badR 0 2 x9) ∧ r9 = dk x9.toNatClampNeg) (Bm D [(cA, .object "VinegarLoft$Barrel"), (cI, .int)] (va_A ([(x, EX r t d yg)] ++ (rowW r la bs cA (nI n) wm df q wd zs h ++ (w4 ++ [(d, ED cI dk)]))) sz) ([(x, EX r t d yg)] ++ (rowW r la bs cA (nI n) wm df q wd zs h ++ (w4 ++ [(d, ED cI dk)])))) (va_A ([(x, EX r t d yg)] ++ (rowW r la bs cA (nI n) wm df q wd zs h ++ (w4 ++ [(d, ED cI dk)]))) sz)) (XE (fun E => E = xIAE ∧ badR 0 2 x9) D [(cA, .object "VinegarLoft$Barrel"), (cI, .int)] (va_A ([(x, EX r t d yg)] ++ (rowW r la bs cA (nI n) wm df q wd zs h ++ (w4 ++ [(d, ED cI dk)]))) sz) ([(x, EX r t d yg)] ++ (rowW r la bs cA (nI n) wm df q wd zs h ++ (w4 ++ [(d, ED cI dk)])))) 1 6 (va_A ([(x, EX r t d yg)] ++ (rowW r la bs cA (nI n) wm df q wd zs h ++ (w4 ++ [(d, ED cI dk)]))) sz) := by
  refine vx_ofW (cc := cX2_bottles) (maxL := 2) (ret := (some .int)) (by decide) rfl ?_
  intro p e s m args below meth c s₁ B hml ht hv
  obtain ⟨rfl, hsz, hP, hK, hD0, hX⟩ := hv
  have hx := B.exec
  have hb := B.bytes
  have hr := B.returns
  have hts := atoms_spec (ws := wsX2_bottles) B.pre
  have hown : s.vm.findClass RX2 = some m.cls := findClass_of_methodNamed B.named
  have hlocks := B.notSynchronized
  subst hsz
  have hD := hD0.self (sz := s.heap.size)
  generalize hAe : va_A ([(x, EX r t d yg)] ++ (rowW r la bs cA (nI n) wm df q wd zs h ++ (w4 ++ [(d, ED cI dk)]))) s.heap.size = A at hD hX ⊢
  have hA : ∀ q : Nat, s.heap.size ≤ q → A q := fun q h => by rw [← hAe]; exact Or.inr h
  refine kW_H (fun H hH => ?_)
  have hP : va_P D vwCl ([(x, EX r t d yg)] ++ (rowW r la bs cA (nI n) wm df q wd zs h ++ (w4 ++ [(d, ED cI dk)]))) H := by rw [hH]; exact hP
  have hS : va_S A s.heap H [] := by rw [hH]; exact va_S.rf
  have hl := lv_entry ([.ref x, .int x9]) (n := 2) (Nat.le_of_ble_eq_true rfl)
  rw [lg_entry_eq]
  generalize (lg_sl ([.ref x, .int x9]) ++ List.replicate (2 - (lg_sl ([.ref x, .int x9])).length) Slot.unset).toArray = ls at hl ⊢
  have hl : lv_has ls 2 [(0, .ref x), (1, .int x9)] := hl
  refine lv_iload_n hx hb dX2_bottles_0 rfl (lv_at hl 1 rfl) ?_
  refine lv_if_lt (tgt := 9) hx hb dX2_bottles_1 (by decide) (fun c1 => ?_) (fun c1 => ?_)
  · exact kx_throw (ik := 27) (is := 118) (ic := 31) (cls := xIAE) (text := "no such kind of bottles") hx hb hst hown hlocks (by decide) (hts (.classLink RX2 27 xIAE) (by decide +kernel)) (hts (.initialized xIAE) (by decide +kernel)) (by decide) (fun w h9 => hts w (List.mem_cons_of_mem _ (List.mem_append_right _ h9))) (by decide +kernel) (by decide +kernel) hX hS (hl.1.trans hml.symm) ht dX2_bottles_9 dX2_bottles_12 dX2_bottles_13 dX2_bottles_15 dX2_bottles_18 ⟨Nat.le_of_ble_eq_true rfl, Nat.le_of_ble_eq_true rfl, Nat.le_of_ble_eq_true rfl, Nat.le_of_ble_eq_true rfl⟩ (⟨rfl, Or.inl c1⟩) hP hK hD (fun q h => h) (Nat.le_of_ble_eq_true rfl) (Nat.le_of_ble_eq_true rfl)
  · refine lv_iload_n hx hb dX2_bottles_4 rfl (lv_at hl 1 rfl) ?_
    refine lv_iconst (v := 3) hx hb dX2_bottles_5 (by decide) ?_
    refine lv_icmp_lt (tgt := 19) hx hb dX2_bottles_6 (by decide) (fun c6 => ?_) (fun c6 => ?_)
    · refine lv_aload_n hx hb dX2_bottles_19 rfl (lv_at hl 0 rfl) ?_
      refine va_get (D := D) (ci := 2) (v := .ref d) (C := RX2) (T := TX2) (N := 4) hx hb hts (by decide +kernel) hown hK hP (0) rfl rfl 2 (by decide) (hts (.fieldLink RX2 19 "VinegarLoft" "drawnByKind" "[I") (by decide +kernel)) (fun _ h9 => h9) rfl dX2_bottles_20 ?_
      refine lv_iload_n hx hb dX2_bottles_23 rfl (lv_at hl 1 rfl) ?_
      obtain ⟨j, hj, rfl⟩ := badI_not (n := 3) (by decide) c1 c6
      refine va_iald hx hb hK hP (1 + (10 + w4.length)) 1 lofW_d rfl (vp_in_nI hj (by decide)) dX2_bottles_24 ?_
      rw [nI_clamp (show j < 2 ^ 31 by omega)]
      refine vx_ret ?_
      refine W.widen (k := 1) (n := 6) (Nat.le_of_ble_eq_true rfl) (Nat.le_of_ble_eq_true rfl) ?_
      exact W.iret hx hb hr (fun t9 ht9 hW => ⟨⟨_, (), rfl, ⟨(nbadR c1 (by have h9 := (nI_leI (a := j) (b := 2) (by omega) (by decide)).mpr (by omega); exact h9)), rfl⟩, by rw [ht9]; exact hP, va_K.moved hW.alike hK, hD⟩, hS.F ht9⟩) hS.2.2 dX2_bottles_25
    · exact kx_throw (ik := 27) (is := 118) (ic := 31) (cls := xIAE) (text := "no such kind of bottles") hx hb hst hown hlocks (by decide) (hts (.classLink RX2 27 xIAE) (by decide +kernel)) (hts (.initialized xIAE) (by decide +kernel)) (by decide) (fun w h9 => hts w (List.mem_cons_of_mem _ (List.mem_append_right _ h9))) (by decide +kernel) (by decide +kernel) hX hS (hl.1.trans hml.symm) ht dX2_bottles_9 dX2_bottles_12 dX2_bottles_13 dX2_bottles_15 dX2_bottles_18 ⟨Nat.le_of_ble_eq_true rfl, Nat.le_of_ble_eq_true rfl, Nat.le_of_ble_eq_true rfl, Nat.le_of_ble_eq_true rfl⟩ (⟨rfl, Or.inr (by have h9 := fa_nlt c6; rw [Int32.le_iff_toInt_le] at h9; rw [Int32.lt_iff_toInt_lt]; exact Int.lt_of_lt_of_le (by decide) h9)⟩) hP hK hD (fun q h => h) (Nat.le_of_ble_eq_true rfl) (Nat.le_of_ble_eq_true rfl)
set_option maxHeartbeats 4000000 in
set_option maxRecDepth 100000 in
/-- barrelNumbered(number) -/
theorem metX2_barrelNumbered (l : Launch) (hst : l.stackTraces = false) (D : va_G) (sz : Nat) (x r t d : Nat) (yg : Int32) (la : Nat) (bs : Nat → Nat) (cA cI : ClassId) (n : Nat) (hn : n ≤ 8) (wm df : Int32) (q : UInt64) (wd zs : Nat → Int32) (h : Nat → UInt64) (w3 : va_W) (x9 : Int32)  : vx_Met l yX2_barrelNumbered wsX2_barrelNumbered { frames := 6, cells := 1, slots := 6, locals := 82 } (Pt D [(cA, .object "VinegarLoft$Barrel"), (cI, .int)] [.ref x, .int x9] ([(x, EX r t d yg)] ++ (rowW r la bs cA (nI n) wm df q wd zs h ++ w3)) sz) (va_Qr (fun (_ : Unit) => ¬ badI n x9) (fun _ a9 t9 => a9 = bs x9.toNatClampNeg ∧ va_P D vwCl ([(x, EX r t d yg)] ++ (rowW r la bs cA (nI n) wm df q wd zs h ++ w3)) t9.heap ∧ va_K D vwCl [(cA, .object "VinegarLoft$Barrel"), (cI, .int)] t9 ∧ va_D (va_A ([(x, EX r t d yg)] ++ (rowW r la bs cA (nI n) wm df q wd zs h ++ w3)) sz) ([(x, EX r t d yg)] ++ (rowW r la bs cA (nI n) wm df q wd zs h ++ w3))) (va_A ([(x, EX r t d yg)] ++ (rowW r la bs cA (nI n) wm df q wd zs h ++ w3)) sz)) (XE (fun E => E = xIOB ∧ badI n x9) D [(cA, .object "VinegarLoft$Barrel"), (cI, .int)] (va_A ([(x, EX r t d yg)] ++ (rowW r la bs cA (nI n) wm df q wd zs h ++ w3)) sz) ([(x, EX r t d yg)] ++ (rowW r la bs cA (nI n) wm df q wd zs h ++ w3))) 1 6 (va_A ([(x, EX r t d yg)] ++ (rowW r la bs cA (nI n) wm df q wd zs h ++ w3)) sz) := by
  refine vx_ofW (cc := cX2_barrelNumbered) (maxL := 2) (ret := (some (.object "VinegarLoft$Barrel"))) (by decide) rfl ?_
  intro p e s m args below meth c s₁ B hml ht hv
  obtain ⟨rfl, hsz, hP, hK, hD0, hX⟩ := hv
  have hx := B.exec
  have hb := B.bytes
  have hr := B.returns
  have hts := atoms_spec (ws := wsX2_barrelNumbered) B.pre
  have hown : s.vm.findClass RX2 = some m.cls := findClass_of_methodNamed B.named
  have hlocks := B.notSynchronized
  subst hsz
  have hD := hD0.self (sz := s.heap.size)
  generalize hAe : va_A ([(x, EX r t d yg)] ++ (rowW r la bs cA (nI n) wm df q wd zs h ++ w3)) s.heap.size = A at hD hX ⊢
  have hA : ∀ q : Nat, s.heap.size ≤ q → A q := fun q h => by rw [← hAe]; exact Or.inr h
  refine kW_H (fun H hH => ?_)
  have hP : va_P D vwCl ([(x, EX r t d yg)] ++ (rowW r la bs cA (nI n) wm df q wd zs h ++ w3)) H := by rw [hH]; exact hP
  have hS : va_S A s.heap H [] := by rw [hH]; exact va_S.rf
  have hl := lv_entry ([.ref x, .int x9]) (n := 2) (Nat.le_of_ble_eq_true rfl)
  rw [lg_entry_eq]
  generalize (lg_sl ([.ref x, .int x9]) ++ List.replicate (2 - (lg_sl ([.ref x, .int x9])).length) Slot.unset).toArray = ls at hl ⊢
  have hl : lv_has ls 2 [(0, .ref x), (1, .int x9)] := hl
  refine lv_iload_n hx hb dX2_barrelNumbered_0 rfl (lv_at hl 1 rfl) ?_
  refine lv_if_lt (tgt := 15) hx hb dX2_barrelNumbered_1 (by decide) (fun c1 => ?_) (fun c1 => ?_)
  · exact kx_throw (ik := 133) (is := 135) (ic := 137) (cls := xIOB) (text := "no such barrel") hx hb hst hown hlocks (by decide) (hts (.classLink RX2 133 xIOB) (by decide +kernel)) (hts (.initialized xIOB) (by decide +kernel)) (by decide) (fun w h9 => hts w (List.mem_cons_of_mem _ (List.mem_append_right _ h9))) (by decide +kernel) (by decide +kernel) hX hS (hl.1.trans hml.symm) ht dX2_barrelNumbered_15 dX2_barrelNumbered_18 dX2_barrelNumbered_19 dX2_barrelNumbered_21 dX2_barrelNumbered_24 ⟨Nat.le_of_ble_eq_true rfl, Nat.le_of_ble_eq_true rfl, Nat.le_of_ble_eq_true rfl, Nat.le_of_ble_eq_true rfl⟩ (⟨rfl, Or.inl c1⟩) hP hK hD (fun q h => h) (Nat.le_of_ble_eq_true rfl) (Nat.le_of_ble_eq_true rfl)
  · refine lv_iload_n hx hb dX2_barrelNumbered_4 rfl (lv_at hl 1 rfl) ?_
    refine lv_aload_n hx hb dX2_barrelNumbered_5 rfl (lv_at hl 0 rfl) ?_
    refine va_get (D := D) (ci := 2) (v := .ref r) (C := RX2) (T := TX2) (N := 4) hx hb hts (by decide +kernel) hown hK hP (0) rfl rfl 0 (by decide) (hts (.fieldLink RX2 10 "VinegarLoft" "row" "LVinegarLoft$Row;") (by decide +kernel)) (fun _ h9 => h9) rfl dX2_barrelNumbered_6 ?_
    refine va_get (D := D) (ci := 1) (v := .int (nI n)) (C := RX1) (T := TX1) (N := 5) hx hb hts (by decide +kernel) hown hK hP (1) rfl rfl 1 (by decide) (hts (.fieldLink RX2 100 "VinegarLoft$Row" "count" "I") (by decide +kernel)) (fun _ h9 => h9) rfl dX2_barrelNumbered_9 ?_
    refine lv_icmp_lt (tgt := 25) hx hb dX2_barrelNumbered_12 (by decide) (fun c12 => ?_) (fun c12 => ?_)
    · refine lv_aload_n hx hb dX2_barrelNumbered_25 rfl (lv_at hl 0 rfl) ?_
      refine va_get (D := D) (ci := 2) (v := .ref r) (C := RX2) (T := TX2) (N := 4) hx hb hts (by decide +kernel) hown hK hP (0) rfl rfl 0 (by decide) (hts (.fieldLink RX2 10 "VinegarLoft" "row" "LVinegarLoft$Row;") (by decide +kernel)) (fun _ h9 => h9) rfl dX2_barrelNumbered_26 ?_
      refine va_get (D := D) (ci := 1) (v := .ref la) (C := RX1) (T := TX1) (N := 5) hx hb hts (by decide +kernel) hown hK hP (1) rfl rfl 0 (by decide) (hts (.fieldLink RX2 138 "VinegarLoft$Row" "line" "[LVinegarLoft$Barrel;") (by decide +kernel)) (fun _ h9 => h9) rfl dX2_barrelNumbered_29 ?_
      refine lv_iload_n hx hb dX2_barrelNumbered_32 rfl (lv_at hl 1 rfl) ?_
      obtain ⟨j, hj, hx9⟩ := badI_not (n := n) (by omega) c1 c12
      refine kx_ald hx hb hK hP 2 0 rfl rfl (j := j) hx9 (by omega) dX2_barrelNumbered_33 ?_
      refine vx_ret ?_
      refine W.widen (k := 1) (n := 6) (Nat.le_of_ble_eq_true rfl) (Nat.le_of_ble_eq_true rfl) ?_
      exact W.aret hx hb hr (Or.inl ⟨_, rfl⟩) (Or.inr ⟨_, rfl⟩) (fun t9 ht9 hW => ⟨⟨(), _, rfl, (by rintro (h9 | h9); exact c1 h9; rw [Int32.le_iff_toInt_le] at h9; rw [Int32.lt_iff_toInt_lt] at c12; omega), by rw [hx9, nI_clamp (by omega)], by rw [ht9]; exact hP, va_K.moved hW.alike hK, hD⟩, hS.F ht9⟩) hS.2.2 dX2_barrelNumbered_34
    · exact kx_throw (ik := 133) (is := 135) (ic := 137) (cls := xIOB) (text := "no such barrel") hx hb hst hown hlocks (by decide) (hts (.classLink RX2 133 xIOB) (by decide +kernel)) (hts (.initialized xIOB) (by decide +kernel)) (by decide) (fun w h9 => hts w (List.mem_cons_of_mem _ (List.mem_append_right _ h9))) (by decide +kernel) (by decide +kernel) hX hS (hl.1.trans hml.symm) ht dX2_barrelNumbered_15 dX2_barrelNumbered_18 dX2_barrelNumbered_19 dX2_barrelNumbered_21 dX2_barrelNumbered_24 ⟨Nat.le_of_ble_eq_true rfl, Nat.le_of_ble_eq_true rfl, Nat.le_of_ble_eq_true rfl, Nat.le_of_ble_eq_true rfl⟩ (⟨rfl, Or.inr (fa_nlt c12)⟩) hP hK hD (fun q h => h) (Nat.le_of_ble_eq_true rfl) (Nat.le_of_ble_eq_true rfl)
set_option maxHeartbeats 4000000 in
set_option maxRecDepth 100000 in
/-- litresIn(barrel) -/
theorem metX2_litresIn (l : Launch) (hst : l.stackTraces = false) (D : va_G) (sz : Nat) (x r t d : Nat) (yg : Int32) (la : Nat) (bs : Nat → Nat) (cA cI : ClassId) (n : Nat) (hn : n ≤ 8) (wm df : Int32) (q : UInt64) (wd zs : Nat → Int32) (h : Nat → UInt64) (w3 : va_W) (x9 : Int32)  : vx_Met l yX2_litresIn wsX2_litresIn { frames := 7, cells := 1, slots := 6, locals := 103 } (Pt D [(cA, .object "VinegarLoft$Barrel"), (cI, .int)] [.ref x, .int x9] ([(x, EX r t d yg)] ++ (rowW r la bs cA (nI n) wm df q wd zs h ++ w3)) sz) (va_Qd (fun (r9 : UInt64) (_ : Unit) => (¬ badI n x9) ∧ r9 = h (x9.toNatClampNeg)) (Bm D [(cA, .object "VinegarLoft$Barrel"), (cI, .int)] (va_A ([(x, EX r t d yg)] ++ (rowW r la bs cA (nI n) wm df q wd zs h ++ w3)) sz) ([(x, EX r t d yg)] ++ (rowW r la bs cA (nI n) wm df q wd zs h ++ w3))) (va_A ([(x, EX r t d yg)] ++ (rowW r la bs cA (nI n) wm df q wd zs h ++ w3)) sz)) (XE (fun E => E = xIOB ∧ badI n x9) D [(cA, .object "VinegarLoft$Barrel"), (cI, .int)] (va_A ([(x, EX r t d yg)] ++ (rowW r la bs cA (nI n) wm df q wd zs h ++ w3)) sz) ([(x, EX r t d yg)] ++ (rowW r la bs cA (nI n) wm df q wd zs h ++ w3))) 1 6 (va_A ([(x, EX r t d yg)] ++ (rowW r la bs cA (nI n) wm df q wd zs h ++ w3)) sz) := by
  refine vx_ofW (cc := cX2_litresIn) (maxL := 2) (ret := (some .double)) (by decide) rfl ?_
  intro p e s m args below meth c s₁ B hml ht hv
  obtain ⟨rfl, hsz, hP, hK, hD0, hX⟩ := hv
  have hx := B.exec
  have hb := B.bytes
  have hr := B.returns
  have hts := atoms_spec (ws := wsX2_litresIn) B.pre
  have hown : s.vm.findClass RX2 = some m.cls := findClass_of_methodNamed B.named
  have hlocks := B.notSynchronized
  subst hsz
  have hD := hD0.self (sz := s.heap.size)
  generalize hAe : va_A ([(x, EX r t d yg)] ++ (rowW r la bs cA (nI n) wm df q wd zs h ++ w3)) s.heap.size = A at hD hX ⊢
  have hA : ∀ q : Nat, s.heap.size ≤ q → A q := fun q h => by rw [← hAe]; exact Or.inr h
  refine kW_H (fun H hH => ?_)
  have hP : va_P D vwCl ([(x, EX r t d yg)] ++ (rowW r la bs cA (nI n) wm df q wd zs h ++ w3)) H := by rw [hH]; exact hP
  have hS : va_S A s.heap H [] := by rw [hH]; exact va_S.rf
  have hl := lv_entry ([.ref x, .int x9]) (n := 2) (Nat.le_of_ble_eq_true rfl)
  rw [lg_entry_eq]
  generalize (lg_sl ([.ref x, .int x9]) ++ List.replicate (2 - (lg_sl ([.ref x, .int x9])).length) Slot.unset).toArray = ls at hl ⊢
  have hl : lv_has ls 2 [(0, .ref x), (1, .int x9)] := hl
  refine lv_aload_n hx hb dX2_litresIn_0 rfl (lv_at hl 0 rfl) ?_
  refine lv_iload_n hx hb dX2_litresIn_1 rfl (lv_at hl 1 rfl) ?_
  have hPm : va_P D vwCl ([(x, EX r t d yg)] ++ (rowW r la bs cA (nI n) wm df q wd zs h ++ w3)) H := hP
  have hDm : va_D A ([(x, EX r t d yg)] ++ (rowW r la bs cA (nI n) wm df q wd zs h ++ w3)) := hD
  have hX9 : XP A s H := hX.kept hS.2.1
  have hA9 : ∀ q : Nat, H.size ≤ q → A q := fun q h9 => hA q (Nat.le_trans hS.1 h9)
  refine kq_r (w1 := []) (w2 := [(x, EX r t d yg)] ++ (rowW r la bs cA (nI n) wm df q wd zs h ++ w3)) (w3 := []) (vx_runV (As := [.int x9]) (rest := []) ⟨hx, hb, hml, hown, hts⟩ (metX2_barrelNumbered l hst D H.size x r t d yg la bs cA cI n hn wm df q wd zs h w3 x9) (cwV 1 hts gX2_litresIn_X2_barrelNumbered rfl rfl rfl (by decide +kernel) ⟨Nat.le_of_ble_eq_true rfl, Nat.le_of_ble_eq_true rfl⟩) (ptV 2 0 RX2 TX2 4 rfl rfl hPm (hK.sub [0, 1] rfl) hDm hX9 hA9) rfl rfl hl.1 rfl (lv_room (Nat.le_of_ble_eq_true rfl)) dX2_litresIn_2 ⟨Nat.le_of_ble_eq_true rfl, Nat.le_of_ble_eq_true rfl⟩) (by rw [List.nil_append, List.append_nil]; exact hP) (by rw [List.nil_append, List.append_nil]; exact hD) hS hA (fun E ce q9 H locs hB hP hD hS hce hcv hcl => ?_) (fun H locs hok hP hD hS => ?_)
  · rw [List.nil_append, List.append_nil] at hP hD
    exact kx_out ht hlocks hce hcv hcl hB hP hK hD hS (fun q h => h) (Nat.le_of_ble_eq_true rfl) (Nat.le_of_ble_eq_true rfl)
  rw [List.nil_append, List.append_nil] at hP hD
  obtain ⟨j, hj, hx9⟩ := badI_not (n := n) (by omega) (fun h9 => hok (Or.inl h9)) (Classical.byContradiction fun h9 => hok (Or.inr (fa_nlt h9)))
  rw [show x9.toNatClampNeg = j by rw [hx9]; exact nI_clamp (by omega)]
  refine va_get (D := D) (ci := 0) (v := .double (h j)) (C := RX0) (T := TX0) (N := 6) hx hb hts (by decide +kernel) hown hK hP (1 + (2 + j)) (lofW_b (show j < 8 by omega)) rfl 2 (by decide) (hts (.fieldLink RX2 86 "VinegarLoft$Barrel" "litres" "D") (by decide +kernel)) (fun _ h9 => h9) rfl dX2_litresIn_5 ?_
  refine vx_ret ?_
  refine W.widen (k := 1) (n := 6) (Nat.le_of_ble_eq_true rfl) (Nat.le_of_ble_eq_true rfl) ?_
  exact W.dret hx hb hr (fun t9 ht9 hW => ⟨⟨_, (), rfl, ⟨hok, rfl⟩, by rw [ht9]; exact hP, va_K.moved hW.alike hK, hD⟩, hS.F ht9⟩) hS.2.2 dX2_litresIn_8
set_option maxHeartbeats 4000000 in
set_option maxRecDepth 100000 in
/-- ageOf(barrel) -/
theorem metX2_ageOf (l : Launch) (hst : l.stackTraces = false) (D : va_G) (sz : Nat) (x r t d : Nat) (yg : Int32) (la : Nat) (bs : Nat → Nat) (cA cI : ClassId) (n : Nat) (hn : n ≤ 8) (wm df : Int32) (q : UInt64) (wd zs : Nat → Int32) (h : Nat → UInt64) (w3 : va_W) (x9 : Int32)  : vx_Met l yX2_ageOf wsX2_ageOf { frames := 7, cells := 1, slots := 6, locals := 103 } (Pt D [(cA, .object "VinegarLoft$Barrel"), (cI, .int)] [.ref x, .int x9] ([(x, EX r t d yg)] ++ (rowW r la bs cA (nI n) wm df q wd zs h ++ w3)) sz) (va_Qd (fun (r9 : UInt64) (_ : Unit) => (¬ badI n x9) ∧ r9 = h (8 + x9.toNatClampNeg)) (Bm D [(cA, .object "VinegarLoft$Barrel"), (cI, .int)] (va_A ([(x, EX r t d yg)] ++ (rowW r la bs cA (nI n) wm df q wd zs h ++ w3)) sz) ([(x, EX r t d yg)] ++ (rowW r la bs cA (nI n) wm df q wd zs h ++ w3))) (va_A ([(x, EX r t d yg)] ++ (rowW r la bs cA (nI n) wm df q wd zs h ++ w3)) sz)) (XE (fun E => E = xIOB ∧ badI n x9) D [(cA, .object "VinegarLoft$Barrel"), (cI, .int)] (va_A ([(x, EX r t d yg)] ++ (rowW r la bs cA (nI n) wm df q wd zs h ++ w3)) sz) ([(x, EX r t d yg)] ++ (rowW r la bs cA (nI n) wm df q wd zs h ++ w3))) 1 6 (va_A ([(x, EX r t d yg)] ++ (rowW r la bs cA (nI n) wm df q wd zs h ++ w3)) sz) := by
  refine vx_ofW (cc := cX2_ageOf) (maxL := 2) (ret := (some .double)) (by decide) rfl ?_
  intro p e s m args below meth c s₁ B hml ht hv
  obtain ⟨rfl, hsz, hP, hK, hD0, hX⟩ := hv
  have hx := B.exec
  have hb := B.bytes
  have hr := B.returns
  have hts := atoms_spec (ws := wsX2_ageOf) B.pre
  have hown : s.vm.findClass RX2 = some m.cls := findClass_of_methodNamed B.named
  have hlocks := B.notSynchronized
  subst hsz
  have hD := hD0.self (sz := s.heap.size)
  generalize hAe : va_A ([(x, EX r t d yg)] ++ (rowW r la bs cA (nI n) wm df q wd zs h ++ w3)) s.heap.size = A at hD hX ⊢
  have hA : ∀ q : Nat, s.heap.size ≤ q → A q := fun q h => by rw [← hAe]; exact Or.inr h
  refine kW_H (fun H hH => ?_)
  have hP : va_P D vwCl ([(x, EX r t d yg)] ++ (rowW r la bs cA (nI n) wm df q wd zs h ++ w3)) H := by rw [hH]; exact hP
  have hS : va_S A s.heap H [] := by rw [hH]; exact va_S.rf
  have hl := lv_entry ([.ref x, .int x9]) (n := 2) (Nat.le_of_ble_eq_true rfl)
  rw [lg_entry_eq]
  generalize (lg_sl ([.ref x, .int x9]) ++ List.replicate (2 - (lg_sl ([.ref x, .int x9])).length) Slot.unset).toArray = ls at hl ⊢
  have hl : lv_has ls 2 [(0, .ref x), (1, .int x9)] := hl
  refine lv_aload_n hx hb dX2_ageOf_0 rfl (lv_at hl 0 rfl) ?_
  refine lv_iload_n hx hb dX2_ageOf_1 rfl (lv_at hl 1 rfl) ?_
  have hPm : va_P D vwCl ([(x, EX r t d yg)] ++ (rowW r la bs cA (nI n) wm df q wd zs h ++ w3)) H := hP
  have hDm : va_D A ([(x, EX r t d yg)] ++ (rowW r la bs cA (nI n) wm df q wd zs h ++ w3)) := hD
  have hX9 : XP A s H := hX.kept hS.2.1
  have hA9 : ∀ q : Nat, H.size ≤ q → A q := fun q h9 => hA q (Nat.le_trans hS.1 h9)
  refine kq_r (w1 := []) (w2 := [(x, EX r t d yg)] ++ (rowW r la bs cA (nI n) wm df q wd zs h ++ w3)) (w3 := []) (vx_runV (As := [.int x9]) (rest := []) ⟨hx, hb, hml, hown, hts⟩ (metX2_barrelNumbered l hst D H.size x r t d yg la bs cA cI n hn wm df q wd zs h w3 x9) (cwV 1 hts gX2_ageOf_X2_barrelNumbered rfl rfl rfl (by decide +kernel) ⟨Nat.le_of_ble_eq_true rfl, Nat.le_of_ble_eq_true rfl⟩) (ptV 2 0 RX2 TX2 4 rfl rfl hPm (hK.sub [0, 1] rfl) hDm hX9 hA9) rfl rfl hl.1 rfl (lv_room (Nat.le_of_ble_eq_true rfl)) dX2_ageOf_2 ⟨Nat.le_of_ble_eq_true rfl, Nat.le_of_ble_eq_true rfl⟩) (by rw [List.nil_append, List.append_nil]; exact hP) (by rw [List.nil_append, List.append_nil]; exact hD) hS hA (fun E ce q9 H locs hB hP hD hS hce hcv hcl => ?_) (fun H locs hok hP hD hS => ?_)
  · rw [List.nil_append, List.append_nil] at hP hD
    exact kx_out ht hlocks hce hcv hcl hB hP hK hD hS (fun q h => h) (Nat.le_of_ble_eq_true rfl) (Nat.le_of_ble_eq_true rfl)
  rw [List.nil_append, List.append_nil] at hP hD
  obtain ⟨j, hj, hx9⟩ := badI_not (n := n) (by omega) (fun h9 => hok (Or.inl h9)) (Classical.byContradiction fun h9 => hok (Or.inr (fa_nlt h9)))
  rw [show x9.toNatClampNeg = j by rw [hx9]; exact nI_clamp (by omega)]
  refine va_get (D := D) (ci := 0) (v := .double (h (8 + j))) (C := RX0) (T := TX0) (N := 6) hx hb hts (by decide +kernel) hown hK hP (1 + (2 + j)) (lofW_b (show j < 8 by omega)) rfl 3 (by decide) (hts (.fieldLink RX2 103 "VinegarLoft$Barrel" "age" "D") (by decide +kernel)) (fun _ h9 => h9) rfl dX2_ageOf_5 ?_
  refine vx_ret ?_
  refine W.widen (k := 1) (n := 6) (Nat.le_of_ble_eq_true rfl) (Nat.le_of_ble_eq_true rfl) ?_
  exact W.dret hx hb hr (fun t9 ht9 hW => ⟨⟨_, (), rfl, ⟨hok, rfl⟩, by rw [ht9]; exact hP, va_K.moved hW.alike hK, hD⟩, hS.F ht9⟩) hS.2.2 dX2_ageOf_8
set_option maxHeartbeats 4000000 in
set_option maxRecDepth 100000 in
/-- acidOf(barrel) -/
theorem metX2_acidOf (l : Launch) (hst : l.stackTraces = false) (D : va_G) (sz : Nat) (x r t d : Nat) (yg : Int32) (la : Nat) (bs : Nat → Nat) (cA cI : ClassId) (n : Nat) (hn : n ≤ 8) (wm df : Int32) (q : UInt64) (wd zs : Nat → Int32) (h : Nat → UInt64) (w3 : va_W) (x9 : Int32)  : vx_Met l yX2_acidOf wsX2_acidOf { frames := 7, cells := 1, slots := 6, locals := 103 } (Pt D [(cA, .object "VinegarLoft$Barrel"), (cI, .int)] [.ref x, .int x9] ([(x, EX r t d yg)] ++ (rowW r la bs cA (nI n) wm df q wd zs h ++ w3)) sz) (va_Qd (fun (r9 : UInt64) (_ : Unit) => (¬ badI n x9) ∧ r9 = h (16 + x9.toNatClampNeg)) (Bm D [(cA, .object "VinegarLoft$Barrel"), (cI, .int)] (va_A ([(x, EX r t d yg)] ++ (rowW r la bs cA (nI n) wm df q wd zs h ++ w3)) sz) ([(x, EX r t d yg)] ++ (rowW r la bs cA (nI n) wm df q wd zs h ++ w3))) (va_A ([(x, EX r t d yg)] ++ (rowW r la bs cA (nI n) wm df q wd zs h ++ w3)) sz)) (XE (fun E => E = xIOB ∧ badI n x9) D [(cA, .object "VinegarLoft$Barrel"), (cI, .int)] (va_A ([(x, EX r t d yg)] ++ (rowW r la bs cA (nI n) wm df q wd zs h ++ w3)) sz) ([(x, EX r t d yg)] ++ (rowW r la bs cA (nI n) wm df q wd zs h ++ w3))) 1 6 (va_A ([(x, EX r t d yg)] ++ (rowW r la bs cA (nI n) wm df q wd zs h ++ w3)) sz) := by
  refine vx_ofW (cc := cX2_acidOf) (maxL := 2) (ret := (some .double)) (by decide) rfl ?_
  intro p e s m args below meth c s₁ B hml ht hv
  obtain ⟨rfl, hsz, hP, hK, hD0, hX⟩ := hv
  have hx := B.exec
  have hb := B.bytes
  have hr := B.returns
  have hts := atoms_spec (ws := wsX2_acidOf) B.pre
  have hown : s.vm.findClass RX2 = some m.cls := findClass_of_methodNamed B.named
  have hlocks := B.notSynchronized
  subst hsz
  have hD := hD0.self (sz := s.heap.size)
  generalize hAe : va_A ([(x, EX r t d yg)] ++ (rowW r la bs cA (nI n) wm df q wd zs h ++ w3)) s.heap.size = A at hD hX ⊢
  have hA : ∀ q : Nat, s.heap.size ≤ q → A q := fun q h => by rw [← hAe]; exact Or.inr h
  refine kW_H (fun H hH => ?_)
  have hP : va_P D vwCl ([(x, EX r t d yg)] ++ (rowW r la bs cA (nI n) wm df q wd zs h ++ w3)) H := by rw [hH]; exact hP
  have hS : va_S A s.heap H [] := by rw [hH]; exact va_S.rf
  have hl := lv_entry ([.ref x, .int x9]) (n := 2) (Nat.le_of_ble_eq_true rfl)
  rw [lg_entry_eq]
  generalize (lg_sl ([.ref x, .int x9]) ++ List.replicate (2 - (lg_sl ([.ref x, .int x9])).length) Slot.unset).toArray = ls at hl ⊢
  have hl : lv_has ls 2 [(0, .ref x), (1, .int x9)] := hl
  refine lv_aload_n hx hb dX2_acidOf_0 rfl (lv_at hl 0 rfl) ?_
  refine lv_iload_n hx hb dX2_acidOf_1 rfl (lv_at hl 1 rfl) ?_
  have hPm : va_P D vwCl ([(x, EX r t d yg)] ++ (rowW r la bs cA (nI n) wm df q wd zs h ++ w3)) H := hP
  have hDm : va_D A ([(x, EX r t d yg)] ++ (rowW r la bs cA (nI n) wm df q wd zs h ++ w3)) := hD
  have hX9 : XP A s H := hX.kept hS.2.1
  have hA9 : ∀ q : Nat, H.size ≤ q → A q := fun q h9 => hA q (Nat.le_trans hS.1 h9)
  refine kq_r (w1 := []) (w2 := [(x, EX r t d yg)] ++ (rowW r la bs cA (nI n) wm df q wd zs h ++ w3)) (w3 := []) (vx_runV (As := [.int x9]) (rest := []) ⟨hx, hb, hml, hown, hts⟩ (metX2_barrelNumbered l hst D H.size x r t d yg la bs cA cI n hn wm df q wd zs h w3 x9) (cwV 1 hts gX2_acidOf_X2_barrelNumbered rfl rfl rfl (by decide +kernel) ⟨Nat.le_of_ble_eq_true rfl, Nat.le_of_ble_eq_true rfl⟩) (ptV 2 0 RX2 TX2 4 rfl rfl hPm (hK.sub [0, 1] rfl) hDm hX9 hA9) rfl rfl hl.1 rfl (lv_room (Nat.le_of_ble_eq_true rfl)) dX2_acidOf_2 ⟨Nat.le_of_ble_eq_true rfl, Nat.le_of_ble_eq_true rfl⟩) (by rw [List.nil_append, List.append_nil]; exact hP) (by rw [List.nil_append, List.append_nil]; exact hD) hS hA (fun E ce q9 H locs hB hP hD hS hce hcv hcl => ?_) (fun H locs hok hP hD hS => ?_)
  · rw [List.nil_append, List.append_nil] at hP hD
    exact kx_out ht hlocks hce hcv hcl hB hP hK hD hS (fun q h => h) (Nat.le_of_ble_eq_true rfl) (Nat.le_of_ble_eq_true rfl)
  rw [List.nil_append, List.append_nil] at hP hD
  obtain ⟨j, hj, hx9⟩ := badI_not (n := n) (by omega) (fun h9 => hok (Or.inl h9)) (Classical.byContradiction fun h9 => hok (Or.inr (fa_nlt h9)))
  rw [show x9.toNatClampNeg = j by rw [hx9]; exact nI_clamp (by omega)]
  refine va_get (D := D) (ci := 0) (v := .double (h (16 + j))) (C := RX0) (T := TX0) (N := 6) hx hb hts (by decide +kernel) hown hK hP (1 + (2 + j)) (lofW_b (show j < 8 by omega)) rfl 4 (by decide) (hts (.fieldLink RX2 106 "VinegarLoft$Barrel" "acid" "D") (by decide +kernel)) (fun _ h9 => h9) rfl dX2_acidOf_5 ?_
  refine vx_ret ?_
  refine W.widen (k := 1) (n := 6) (Nat.le_of_ble_eq_true rfl) (Nat.le_of_ble_eq_true rfl) ?_
  exact W.dret hx hb hr (fun t9 ht9 hW => ⟨⟨_, (), rfl, ⟨hok, rfl⟩, by rw [ht9]; exact hP, va_K.moved hW.alike hK, hD⟩, hS.F ht9⟩) hS.2.2 dX2_acidOf_8
set_option maxHeartbeats 4000000 in
set_option maxRecDepth 100000 in
/-- sugarOf(barrel) -/
theorem metX2_sugarOf (l : Launch) (hst : l.stackTraces = false) (D : va_G) (sz : Nat) (x r t d : Nat) (yg : Int32) (la : Nat) (bs : Nat → Nat) (cA cI : ClassId) (n : Nat) (hn : n ≤ 8) (wm df : Int32) (q : UInt64) (wd zs : Nat → Int32) (h : Nat → UInt64) (w3 : va_W) (x9 : Int32)  : vx_Met l yX2_sugarOf wsX2_sugarOf { frames := 7, cells := 1, slots := 6, locals := 103 } (Pt D [(cA, .object "VinegarLoft$Barrel"), (cI, .int)] [.ref x, .int x9] ([(x, EX r t d yg)] ++ (rowW r la bs cA (nI n) wm df q wd zs h ++ w3)) sz) (va_Qd (fun (r9 : UInt64) (_ : Unit) => (¬ badI n x9) ∧ r9 = h (24 + x9.toNatClampNeg)) (Bm D [(cA, .object "VinegarLoft$Barrel"), (cI, .int)] (va_A ([(x, EX r t d yg)] ++ (rowW r la bs cA (nI n) wm df q wd zs h ++ w3)) sz) ([(x, EX r t d yg)] ++ (rowW r la bs cA (nI n) wm df q wd zs h ++ w3))) (va_A ([(x, EX r t d yg)] ++ (rowW r la bs cA (nI n) wm df q wd zs h ++ w3)) sz)) (XE (fun E => E = xIOB ∧ badI n x9) D [(cA, .object "VinegarLoft$Barrel"), (cI, .int)] (va_A ([(x, EX r t d yg)] ++ (rowW r la bs cA (nI n) wm df q wd zs h ++ w3)) sz) ([(x, EX r t d yg)] ++ (rowW r la bs cA (nI n) wm df q wd zs h ++ w3))) 1 6 (va_A ([(x, EX r t d yg)] ++ (rowW r la bs cA (nI n) wm df q wd zs h ++ w3)) sz) := by
  refine vx_ofW (cc := cX2_sugarOf) (maxL := 2) (ret := (some .double)) (by decide) rfl ?_
  intro p e s m args below meth c s₁ B hml ht hv
  obtain ⟨rfl, hsz, hP, hK, hD0, hX⟩ := hv
  have hx := B.exec
  have hb := B.bytes
  have hr := B.returns
  have hts := atoms_spec (ws := wsX2_sugarOf) B.pre
  have hown : s.vm.findClass RX2 = some m.cls := findClass_of_methodNamed B.named
  have hlocks := B.notSynchronized
  subst hsz
  have hD := hD0.self (sz := s.heap.size)
  generalize hAe : va_A ([(x, EX r t d yg)] ++ (rowW r la bs cA (nI n) wm df q wd zs h ++ w3)) s.heap.size = A at hD hX ⊢
  have hA : ∀ q : Nat, s.heap.size ≤ q → A q := fun q h => by rw [← hAe]; exact Or.inr h
  refine kW_H (fun H hH => ?_)
  have hP : va_P D vwCl ([(x, EX r t d yg)] ++ (rowW r la bs cA (nI n) wm df q wd zs h ++ w3)) H := by rw [hH]; exact hP
  have hS : va_S A s.heap H [] := by rw [hH]; exact va_S.rf
  have hl := lv_entry ([.ref x, .int x9]) (n := 2) (Nat.le_of_ble_eq_true rfl)
  rw [lg_entry_eq]
  generalize (lg_sl ([.ref x, .int x9]) ++ List.replicate (2 - (lg_sl ([.ref x, .int x9])).length) Slot.unset).toArray = ls at hl ⊢
  have hl : lv_has ls 2 [(0, .ref x), (1, .int x9)] := hl
  refine lv_aload_n hx hb dX2_sugarOf_0 rfl (lv_at hl 0 rfl) ?_
  refine lv_iload_n hx hb dX2_sugarOf_1 rfl (lv_at hl 1 rfl) ?_
  have hPm : va_P D vwCl ([(x, EX r t d yg)] ++ (rowW r la bs cA (nI n) wm df q wd zs h ++ w3)) H := hP
  have hDm : va_D A ([(x, EX r t d yg)] ++ (rowW r la bs cA (nI n) wm df q wd zs h ++ w3)) := hD
  have hX9 : XP A s H := hX.kept hS.2.1
  have hA9 : ∀ q : Nat, H.size ≤ q → A q := fun q h9 => hA q (Nat.le_trans hS.1 h9)
  refine kq_r (w1 := []) (w2 := [(x, EX r t d yg)] ++ (rowW r la bs cA (nI n) wm df q wd zs h ++ w3)) (w3 := []) (vx_runV (As := [.int x9]) (rest := []) ⟨hx, hb, hml, hown, hts⟩ (metX2_barrelNumbered l hst D H.size x r t d yg la bs cA cI n hn wm df q wd zs h w3 x9) (cwV 1 hts gX2_sugarOf_X2_barrelNumbered rfl rfl rfl (by decide +kernel) ⟨Nat.le_of_ble_eq_true rfl, Nat.le_of_ble_eq_true rfl⟩) (ptV 2 0 RX2 TX2 4 rfl rfl hPm (hK.sub [0, 1] rfl) hDm hX9 hA9) rfl rfl hl.1 rfl (lv_room (Nat.le_of_ble_eq_true rfl)) dX2_sugarOf_2 ⟨Nat.le_of_ble_eq_true rfl, Nat.le_of_ble_eq_true rfl⟩) (by rw [List.nil_append, List.append_nil]; exact hP) (by rw [List.nil_append, List.append_nil]; exact hD) hS hA (fun E ce q9 H locs hB hP hD hS hce hcv hcl => ?_) (fun H locs hok hP hD hS => ?_)
  · rw [List.nil_append, List.append_nil] at hP hD
    exact kx_out ht hlocks hce hcv hcl hB hP hK hD hS (fun q h => h) (Nat.le_of_ble_eq_true rfl) (Nat.le_of_ble_eq_true rfl)
  rw [List.nil_append, List.append_nil] at hP hD
  obtain ⟨j, hj, hx9⟩ := badI_not (n := n) (by omega) (fun h9 => hok (Or.inl h9)) (Classical.byContradiction fun h9 => hok (Or.inr (fa_nlt h9)))
  rw [show x9.toNatClampNeg = j by rw [hx9]; exact nI_clamp (by omega)]
  refine va_get (D := D) (ci := 0) (v := .double (h (24 + j))) (C := RX0) (T := TX0) (N := 6) hx hb hts (by decide +kernel) hown hK hP (1 + (2 + j)) (lofW_b (show j < 8 by omega)) rfl 5 (by decide) (hts (.fieldLink RX2 109 "VinegarLoft$Barrel" "sugar" "D") (by decide +kernel)) (fun _ h9 => h9) rfl dX2_sugarOf_5 ?_
  refine vx_ret ?_
  refine W.widen (k := 1) (n := 6) (Nat.le_of_ble_eq_true rfl) (Nat.le_of_ble_eq_true rfl) ?_
  exact W.dret hx hb hr (fun t9 ht9 hW => ⟨⟨_, (), rfl, ⟨hok, rfl⟩, by rw [ht9]; exact hP, va_K.moved hW.alike hK, hD⟩, hS.F ht9⟩) hS.2.2 dX2_sugarOf_8
set_option maxHeartbeats 4000000 in
set_option maxRecDepth 100000 in
/-- tasteOf(barrel) -/
theorem metX2_tasteOf (l : Launch) (hst : l.stackTraces = false) (D : va_G) (sz : Nat) (x r t d : Nat) (yg : Int32) (la : Nat) (bs : Nat → Nat) (cA cI : ClassId) (n : Nat) (hn : n ≤ 8) (wm df : Int32) (q : UInt64) (wd zs : Nat → Int32) (h : Nat → UInt64) (w3 : va_W) (x9 : Int32) (hT : ∀ j, j < n → FP.dcmp (h j) 0 ≠ none ∧ (FP.dcmp (h j) 0 = some .gt → tasok (h (8 + j)) (h (16 + j)) (h (24 + j)))) : vx_Met l yX2_tasteOf wsX2_tasteOf { frames := 7, cells := 1, slots := 6, locals := 103 } (Pt D [(cA, .object "VinegarLoft$Barrel"), (cI, .int)] [.ref x, .int x9] ([(x, EX r t d yg)] ++ (rowW r la bs cA (nI n) wm df q wd zs h ++ w3)) sz) (va_Qd (fun (r9 : UInt64) (_ : Unit) => (¬ badI n x9) ∧ r9 = (let j := x9.toNatClampNeg; tasv (h j) (h (8 + j)) (h (16 + j)) (h (24 + j)))) (Bm D [(cA, .object "VinegarLoft$Barrel"), (cI, .int)] (va_A ([(x, EX r t d yg)] ++ (rowW r la bs cA (nI n) wm df q wd zs h ++ w3)) sz) ([(x, EX r t d yg)] ++ (rowW r la bs cA (nI n) wm df q wd zs h ++ w3))) (va_A ([(x, EX r t d yg)] ++ (rowW r la bs cA (nI n) wm df q wd zs h ++ w3)) sz)) (XE (fun E => E = xIOB ∧ badI n x9) D [(cA, .object "VinegarLoft$Barrel"), (cI, .int)] (va_A ([(x, EX r t d yg)] ++ (rowW r la bs cA (nI n) wm df q wd zs h ++ w3)) sz) ([(x, EX r t d yg)] ++ (rowW r la bs cA (nI n) wm df q wd zs h ++ w3))) 1 6 (va_A ([(x, EX r t d yg)] ++ (rowW r la bs cA (nI n) wm df q wd zs h ++ w3)) sz) := by
  refine vx_ofW (cc := cX2_tasteOf) (maxL := 2) (ret := (some .double)) (by decide) rfl ?_
  intro p e s m args below meth c s₁ B hml ht hv
  obtain ⟨rfl, hsz, hP, hK, hD0, hX⟩ := hv
  have hx := B.exec
  have hb := B.bytes
  have hr := B.returns
  have hts := atoms_spec (ws := wsX2_tasteOf) B.pre
  have hown : s.vm.findClass RX2 = some m.cls := findClass_of_methodNamed B.named
  have hlocks := B.notSynchronized
  subst hsz
  have hD := hD0.self (sz := s.heap.size)
  generalize hAe : va_A ([(x, EX r t d yg)] ++ (rowW r la bs cA (nI n) wm df q wd zs h ++ w3)) s.heap.size = A at hD hX ⊢
  have hA : ∀ q : Nat, s.heap.size ≤ q → A q := fun q h => by rw [← hAe]; exact Or.inr h
  refine kW_H (fun H hH => ?_)
  have hP : va_P D vwCl ([(x, EX r t d yg)] ++ (rowW r la bs cA (nI n) wm df q wd zs h ++ w3)) H := by rw [hH]; exact hP
  have hS : va_S A s.heap H [] := by rw [hH]; exact va_S.rf
  have hl := lv_entry ([.ref x, .int x9]) (n := 2) (Nat.le_of_ble_eq_true rfl)
  rw [lg_entry_eq]
  generalize (lg_sl ([.ref x, .int x9]) ++ List.replicate (2 - (lg_sl ([.ref x, .int x9])).length) Slot.unset).toArray = ls at hl ⊢
  have hl : lv_has ls 2 [(0, .ref x), (1, .int x9)] := hl
  refine lv_aload_n hx hb dX2_tasteOf_0 rfl (lv_at hl 0 rfl) ?_
  refine lv_iload_n hx hb dX2_tasteOf_1 rfl (lv_at hl 1 rfl) ?_
  have hPm : va_P D vwCl ([(x, EX r t d yg)] ++ (rowW r la bs cA (nI n) wm df q wd zs h ++ w3)) H := hP
  have hDm : va_D A ([(x, EX r t d yg)] ++ (rowW r la bs cA (nI n) wm df q wd zs h ++ w3)) := hD
  have hX9 : XP A s H := hX.kept hS.2.1
  have hA9 : ∀ q : Nat, H.size ≤ q → A q := fun q h9 => hA q (Nat.le_trans hS.1 h9)
  refine kq_r (w1 := []) (w2 := [(x, EX r t d yg)] ++ (rowW r la bs cA (nI n) wm df q wd zs h ++ w3)) (w3 := []) (vx_runV (As := [.int x9]) (rest := []) ⟨hx, hb, hml, hown, hts⟩ (metX2_barrelNumbered l hst D H.size x r t d yg la bs cA cI n hn wm df q wd zs h w3 x9) (cwV 1 hts gX2_tasteOf_X2_barrelNumbered rfl rfl rfl (by decide +kernel) ⟨Nat.le_of_ble_eq_true rfl, Nat.le_of_ble_eq_true rfl⟩) (ptV 2 0 RX2 TX2 4 rfl rfl hPm (hK.sub [0, 1] rfl) hDm hX9 hA9) rfl rfl hl.1 rfl (lv_room (Nat.le_of_ble_eq_true rfl)) dX2_tasteOf_2 ⟨Nat.le_of_ble_eq_true rfl, Nat.le_of_ble_eq_true rfl⟩) (by rw [List.nil_append, List.append_nil]; exact hP) (by rw [List.nil_append, List.append_nil]; exact hD) hS hA (fun E ce q9 H locs hB hP hD hS hce hcv hcl => ?_) (fun H locs hok hP hD hS => ?_)
  · rw [List.nil_append, List.append_nil] at hP hD
    exact kx_out ht hlocks hce hcv hcl hB hP hK hD hS (fun q h => h) (Nat.le_of_ble_eq_true rfl) (Nat.le_of_ble_eq_true rfl)
  rw [List.nil_append, List.append_nil] at hP hD
  obtain ⟨j, hj, hx9⟩ := badI_not (n := n) (by omega) (fun h9 => hok (Or.inl h9)) (Classical.byContradiction fun h9 => hok (Or.inr (fa_nlt h9)))
  rw [show x9.toNatClampNeg = j by rw [hx9]; exact nI_clamp (by omega)]
  refine kr_d (W.runV (As := []) (rest := []) ⟨hx, hb, hml, hown, hts⟩ (metX0_taste l D (bs j) (wd j) (zs j) (h j) (h (8 + j)) (h (16 + j)) (h (24 + j)) (hT j hj).1 (hT j hj).2) (cwV 0 hts gX2_tasteOf_X0_taste rfl rfl rfl (by decide +kernel) ⟨Nat.le_of_ble_eq_true rfl, Nat.le_of_ble_eq_true rfl⟩) (prV 0 0 RX0 TX0 6 rfl rfl (vj_oP (lofW_b (show j < 8 by omega)) hP) (hK.sub [] rfl)) rfl rfl hl.1 rfl (lv_room (Nat.le_of_ble_eq_true rfl)) dX2_tasteOf_5 ⟨Nat.le_of_ble_eq_true rfl, Nat.le_of_ble_eq_true rfl⟩) ?_
  refine vx_ret ?_
  refine W.widen (k := 1) (n := 6) (Nat.le_of_ble_eq_true rfl) (Nat.le_of_ble_eq_true rfl) ?_
  exact W.dret hx hb hr (fun t9 ht9 hW => ⟨⟨_, (), rfl, ⟨hok, rfl⟩, by rw [ht9]; exact hP, va_K.moved hW.alike hK, hD⟩, hS.F ht9⟩) hS.2.2 dX2_tasteOf_8
set_option maxHeartbeats 4000000 in
set_option maxRecDepth 100000 in
/-- pourAway(barrel) -/
theorem metX2_pourAway (l : Launch) (hst : l.stackTraces = false) (D : va_G) (sz : Nat) (x r t d : Nat) (yg : Int32) (la : Nat) (bs : Nat → Nat) (cA cI : ClassId) (n : Nat) (hn : n ≤ 8) (wm df : Int32) (q : UInt64) (wd zs : Nat → Int32) (h : Nat → UInt64) (w3 : va_W) (x9 : Int32)  : vx_Met l yX2_pourAway wsX2_pourAway { frames := 7, cells := 1, slots := 6, locals := 103 } (Pt D [(cA, .object "VinegarLoft$Barrel"), (cI, .int)] [.ref x, .int x9] ([(x, EX r t d yg)] ++ (rowW r la bs cA (nI n) wm df q wd zs h ++ w3)) sz) (va_Qd (fun (r9 : UInt64) (_ : Unit) => (¬ badI n x9) ∧ r9 = h x9.toNatClampNeg) (Bm D [(cA, .object "VinegarLoft$Barrel"), (cI, .int)] (va_A ([(x, EX r t d yg)] ++ (rowW r la bs cA (nI n) wm df q wd zs h ++ w3)) sz) ([(x, EX r t d yg)] ++ (rowW r la bs cA (nI n) wm df q wd zs (hset h x9.toNatClampNeg 0 0 0 0) ++ w3))) (va_A ([(x, EX r t d yg)] ++ (rowW r la bs cA (nI n) wm df q wd zs h ++ w3)) sz)) (XE (fun E => E = xIOB ∧ badI n x9) D [(cA, .object "VinegarLoft$Barrel"), (cI, .int)] (va_A ([(x, EX r t d yg)] ++ (rowW r la bs cA (nI n) wm df q wd zs h ++ w3)) sz) ([(x, EX r t d yg)] ++ (rowW r la bs cA (nI n) wm df q wd zs h ++ w3))) 1 6 (va_A ([(x, EX r t d yg)] ++ (rowW r la bs cA (nI n) wm df q wd zs h ++ w3)) sz) := by
  refine vx_ofW (cc := cX2_pourAway) (maxL := 5) (ret := (some .double)) (by decide) rfl ?_
  intro p e s m args below meth c s₁ B hml ht hv
  obtain ⟨rfl, hsz, hP, hK, hD0, hX⟩ := hv
  have hx := B.exec
  have hb := B.bytes
  have hr := B.returns
  have hts := atoms_spec (ws := wsX2_pourAway) B.pre
  have hown : s.vm.findClass RX2 = some m.cls := findClass_of_methodNamed B.named
  have hlocks := B.notSynchronized
  subst hsz
  have hD := hD0.self (sz := s.heap.size)
  generalize hAe : va_A ([(x, EX r t d yg)] ++ (rowW r la bs cA (nI n) wm df q wd zs h ++ w3)) s.heap.size = A at hD hX ⊢
  have hA : ∀ q : Nat, s.heap.size ≤ q → A q := fun q h => by rw [← hAe]; exact Or.inr h
  refine kW_H (fun H hH => ?_)
  have hP : va_P D vwCl ([(x, EX r t d yg)] ++ (rowW r la bs cA (nI n) wm df q wd zs h ++ w3)) H := by rw [hH]; exact hP
  have hS : va_S A s.heap H [] := by rw [hH]; exact va_S.rf
  have hl := lv_entry ([.ref x, .int x9]) (n := 5) (Nat.le_of_ble_eq_true rfl)
  rw [lg_entry_eq]
  generalize (lg_sl ([.ref x, .int x9]) ++ List.replicate (5 - (lg_sl ([.ref x, .int x9])).length) Slot.unset).toArray = ls at hl ⊢
  have hl : lv_has ls 5 [(0, .ref x), (1, .int x9)] := hl
  refine lv_aload_n hx hb dX2_pourAway_0 rfl (lv_at hl 0 rfl) ?_
  refine lv_iload_n hx hb dX2_pourAway_1 rfl (lv_at hl 1 rfl) ?_
  have hPm : va_P D vwCl ([(x, EX r t d yg)] ++ (rowW r la bs cA (nI n) wm df q wd zs h ++ w3)) H := hP
  have hDm : va_D A ([(x, EX r t d yg)] ++ (rowW r la bs cA (nI n) wm df q wd zs h ++ w3)) := hD
  have hX9 : XP A s H := hX.kept hS.2.1
  have hA9 : ∀ q : Nat, H.size ≤ q → A q := fun q h9 => hA q (Nat.le_trans hS.1 h9)
  refine kq_r (w1 := []) (w2 := [(x, EX r t d yg)] ++ (rowW r la bs cA (nI n) wm df q wd zs h ++ w3)) (w3 := []) (vx_runV (As := [.int x9]) (rest := []) ⟨hx, hb, hml, hown, hts⟩ (metX2_barrelNumbered l hst D H.size x r t d yg la bs cA cI n hn wm df q wd zs h w3 x9) (cwV 1 hts gX2_pourAway_X2_barrelNumbered rfl rfl rfl (by decide +kernel) ⟨Nat.le_of_ble_eq_true rfl, Nat.le_of_ble_eq_true rfl⟩) (ptV 2 0 RX2 TX2 4 rfl rfl hPm (hK.sub [0, 1] rfl) hDm hX9 hA9) rfl rfl hl.1 rfl (lv_room (Nat.le_of_ble_eq_true rfl)) dX2_pourAway_2 ⟨Nat.le_of_ble_eq_true rfl, Nat.le_of_ble_eq_true rfl⟩) (by rw [List.nil_append, List.append_nil]; exact hP) (by rw [List.nil_append, List.append_nil]; exact hD) hS hA (fun E ce q9 H locs hB hP hD hS hce hcv hcl => ?_) (fun H locs hok hP hD hS => ?_)
  · rw [List.nil_append, List.append_nil] at hP hD
    exact kx_out ht hlocks hce hcv hcl hB hP hK hD hS (fun q h => h) (Nat.le_of_ble_eq_true rfl) (Nat.le_of_ble_eq_true rfl)
  rw [List.nil_append, List.append_nil] at hP hD
  obtain ⟨j, hj, hx9⟩ := badI_not (n := n) (by omega) (fun h9 => hok (Or.inl h9)) (Classical.byContradiction fun h9 => hok (Or.inr (fa_nlt h9)))
  rw [show x9.toNatClampNeg = j by rw [hx9]; exact nI_clamp (by omega)]
  refine lv_astore_n (lv' := [(2, .ref (bs j)), (0, .ref x), (1, .int x9)]) hx hb dX2_pourAway_5 rfl hl (by decide) rfl (fun ls hl => ?_)
  refine lv_aload_n hx hb dX2_pourAway_6 rfl (lv_at hl 0 rfl) ?_
  refine va_get (D := D) (ci := 0) (v := .double (h j)) (C := RX0) (T := TX0) (N := 6) hx hb hts (by decide +kernel) hown hK hP (1 + (2 + j)) (lofW_b (show j < 8 by omega)) rfl 2 (by decide) (hts (.fieldLink RX2 86 "VinegarLoft$Barrel" "litres" "D") (by decide +kernel)) (fun _ h9 => h9) rfl dX2_pourAway_7 ?_
  refine lv_dstore_n (lv' := [(3, .double (h j)), (2, .ref (bs j)), (0, .ref x), (1, .int x9)]) hx hb dX2_pourAway_10 rfl hl (by decide) rfl (fun ls hl => ?_)
  refine lv_aload_n hx hb dX2_pourAway_11 rfl (lv_at hl 1 rfl) ?_
  refine ko_v (va_runV (As := []) (rest := []) ⟨hx, hb, hml, hown, hts⟩ (metX0_clear l D H.size (bs j) (wd j) (zs j) (h j) (h (8 + j)) (h (16 + j)) (h (24 + j))) (cwV 0 hts gX2_pourAway_X0_clear rfl rfl rfl (by decide +kernel) ⟨Nat.le_of_ble_eq_true rfl, Nat.le_of_ble_eq_true rfl⟩) (pmV 0 0 RX0 TX0 6 rfl rfl (vj_oP (lofW_b (show j < 8 by omega)) hP) (hK.sub [] rfl) (vj_oD (lofW_b (show j < 8 by omega)) hD)) rfl rfl hl.1 rfl (lv_room (Nat.le_of_ble_eq_true rfl)) dX2_pourAway_12 ⟨Nat.le_of_ble_eq_true rfl, Nat.le_of_ble_eq_true rfl⟩) (lofW_b (show j < 8 by omega)) hP hD hS hA (fun H locs hP hD hS => ?_)
  have hP : va_P D vwCl ([(x, EX r t d yg)] ++ (rowW r la bs cA (nI n) wm df q wd zs (hset h j 0 0 0 0) ++ w3)) H := by rw [← lofW_sh (show j < 8 by omega)]; exact hP
  have hD : va_D A ([(x, EX r t d yg)] ++ (rowW r la bs cA (nI n) wm df q wd zs (hset h j 0 0 0 0) ++ w3)) := by rw [← lofW_sh (show j < 8 by omega)]; exact hD
  refine lv_dload_n hx hb dX2_pourAway_15 rfl (lv_at hl 0 rfl) ?_
  refine vx_ret ?_
  refine W.widen (k := 1) (n := 6) (Nat.le_of_ble_eq_true rfl) (Nat.le_of_ble_eq_true rfl) ?_
  exact W.dret hx hb hr (fun t9 ht9 hW => ⟨⟨_, (), rfl, ⟨hok, rfl⟩, by rw [ht9]; exact hP, va_K.moved hW.alike hK, hD⟩, hS.F ht9⟩) hS.2.2 dX2_pourAway_16
set_option maxHeartbeats 4000000 in
set_option maxRecDepth 100000 in
/-- draw(bottles) -/
theorem metX2_draw (l : Launch) (hst : l.stackTraces = false) (D : va_G) (sz : Nat) (x r t d : Nat) (yg : Int32) (la : Nat) (bs : Nat → Nat) (cA cI : ClassId) (n : Nat) (hn : n ≤ 8) (wm df : Int32) (q : UInt64) (wd zs : Nat → Int32) (h : Nat → UInt64) (w4 : va_W) (dk : Nat → Int32) (x9 : Int32) (hN : NNr n h) (hr9 : rdok h n q) (hdk : ¬ badR 1 1000 x9 → dwok h n df q x9) : vx_Met l yX2_draw wsX2_draw { frames := 6, cells := 1, slots := 6, locals := 82 } (Pt D [(cA, .object "VinegarLoft$Barrel"), (cI, .int)] [.ref x, .int x9] ([(x, EX r t d yg)] ++ (rowW r la bs cA (nI n) wm df q wd zs h ++ (w4 ++ [(d, ED cI dk)]))) sz) (va_Qi (fun (r9 : Int32) (_ : Unit) => (¬ badR 1 1000 x9) ∧ r9 = takv h n df q x9) (Bm D [(cA, .object "VinegarLoft$Barrel"), (cI, .int)] (va_A ([(x, EX r t d yg)] ++ (rowW r la bs cA (nI n) wm df q wd zs h ++ (w4 ++ [(d, ED cI dk)]))) sz) ([(x, EX r t d yg)] ++ (rowW r la bs cA (nI n) wm df (drQ h n df q x9) wd zs (drH h n df q x9) ++ (w4 ++ [(d, ED cI (drK dk h n df q x9))])))) (va_A ([(x, EX r t d yg)] ++ (rowW r la bs cA (nI n) wm df q wd zs h ++ (w4 ++ [(d, ED cI dk)]))) sz)) (XE (fun E => E = xIAE ∧ badR 1 1000 x9) D [(cA, .object "VinegarLoft$Barrel"), (cI, .int)] (va_A ([(x, EX r t d yg)] ++ (rowW r la bs cA (nI n) wm df q wd zs h ++ (w4 ++ [(d, ED cI dk)]))) sz) ([(x, EX r t d yg)] ++ (rowW r la bs cA (nI n) wm df q wd zs h ++ (w4 ++ [(d, ED cI dk)])))) 1 6 (va_A ([(x, EX r t d yg)] ++ (rowW r la bs cA (nI n) wm df q wd zs h ++ (w4 ++ [(d, ED cI dk)]))) sz) := by
  refine vx_ofW (cc := cX2_draw) (maxL := 4) (ret := (some .int)) (by decide) rfl ?_
  intro p e s m args below meth c s₁ B hml ht hv
  obtain ⟨rfl, hsz, hP, hK, hD0, hX⟩ := hv
  have hx := B.exec
  have hb := B.bytes
  have hr := B.returns
  have hts := atoms_spec (ws := wsX2_draw) B.pre
  have hown : s.vm.findClass RX2 = some m.cls := findClass_of_methodNamed B.named
  have hlocks := B.notSynchronized
  subst hsz
  have hD := hD0.self (sz := s.heap.size)
  generalize hAe : va_A ([(x, EX r t d yg)] ++ (rowW r la bs cA (nI n) wm df q wd zs h ++ (w4 ++ [(d, ED cI dk)]))) s.heap.size = A at hD hX ⊢
  have hA : ∀ q : Nat, s.heap.size ≤ q → A q := fun q h => by rw [← hAe]; exact Or.inr h
  refine kW_H (fun H hH => ?_)
  have hP : va_P D vwCl ([(x, EX r t d yg)] ++ (rowW r la bs cA (nI n) wm df q wd zs h ++ (w4 ++ [(d, ED cI dk)]))) H := by rw [hH]; exact hP
  have hS : va_S A s.heap H [] := by rw [hH]; exact va_S.rf
  have hl := lv_entry ([.ref x, .int x9]) (n := 4) (Nat.le_of_ble_eq_true rfl)
  rw [lg_entry_eq]
  generalize (lg_sl ([.ref x, .int x9]) ++ List.replicate (4 - (lg_sl ([.ref x, .int x9])).length) Slot.unset).toArray = ls at hl ⊢
  have hl : lv_has ls 4 [(0, .ref x), (1, .int x9)] := hl
  refine lv_iload_n hx hb dX2_draw_0 rfl (lv_at hl 1 rfl) ?_
  refine lv_iconst (v := 1) hx hb dX2_draw_1 (by decide) ?_
  refine lv_icmp_lt (tgt := 12) hx hb dX2_draw_2 (by decide) (fun c2 => ?_) (fun c2 => ?_)
  · exact kx_throw (ik := 27) (is := 66) (ic := 31) (cls := xIAE) (text := "bottles out of range") hx hb hst hown hlocks (by decide) (hts (.classLink RX2 27 xIAE) (by decide +kernel)) (hts (.initialized xIAE) (by decide +kernel)) (by decide) (fun w h9 => hts w (List.mem_cons_of_mem _ (List.mem_append_right _ h9))) (by decide +kernel) (by decide +kernel) hX hS (hl.1.trans hml.symm) ht dX2_draw_12 dX2_draw_15 dX2_draw_16 dX2_draw_18 dX2_draw_21 ⟨Nat.le_of_ble_eq_true rfl, Nat.le_of_ble_eq_true rfl, Nat.le_of_ble_eq_true rfl, Nat.le_of_ble_eq_true rfl⟩ (⟨rfl, Or.inl c2⟩) hP hK hD (fun q h => h) (Nat.le_of_ble_eq_true rfl) (Nat.le_of_ble_eq_true rfl)
  · refine lv_iload_n hx hb dX2_draw_5 rfl (lv_at hl 1 rfl) ?_
    refine lv_sipush (v := 1000) hx hb dX2_draw_6 (by decide) ?_
    refine lv_icmp_le (tgt := 22) hx hb dX2_draw_9 (by decide) (fun c9 => ?_) (fun c9 => ?_)
    · refine lv_aload_n hx hb dX2_draw_22 rfl (lv_at hl 0 rfl) ?_
      refine va_get (D := D) (ci := 2) (v := .ref r) (C := RX2) (T := TX2) (N := 4) hx hb hts (by decide +kernel) hown hK hP (0) rfl rfl 0 (by decide) (hts (.fieldLink RX2 10 "VinegarLoft" "row" "LVinegarLoft$Row;") (by decide +kernel)) (fun _ h9 => h9) rfl dX2_draw_23 ?_
      refine kr_i (W.runV (As := []) (rest := []) ⟨hx, hb, hml, hown, hts⟩ (metX1_bottlesReady l D r la bs cA n hn wm df q wd zs h hN hr9) (cwV 0 hts gX2_draw_X1_bottlesReady rfl rfl rfl (by decide +kernel) ⟨Nat.le_of_ble_eq_true rfl, Nat.le_of_ble_eq_true rfl⟩) (prV 1 0 RX1 TX1 5 rfl rfl (vj_mP hP) (hK.sub [0] rfl)) rfl rfl hl.1 rfl (lv_room (Nat.le_of_ble_eq_true rfl)) dX2_draw_26 ⟨Nat.le_of_ble_eq_true rfl, Nat.le_of_ble_eq_true rfl⟩) ?_
      refine lv_istore_n (lv' := [(2, .int (rdv h n df q)), (0, .ref x), (1, .int x9)]) hx hb dX2_draw_29 rfl hl (by decide) rfl (fun ls hl => ?_)
      refine lv_iload_n hx hb dX2_draw_30 rfl (lv_at hl 2 rfl) ?_
      refine lv_iload_n hx hb dX2_draw_31 rfl (lv_at hl 0 rfl) ?_
      refine lv_icmp_ge (tgt := 39) hx hb dX2_draw_32 (by decide) (fun c32 => ?_) (fun c32 => ?_)
      · refine lv_iload_n hx hb dX2_draw_39 rfl (lv_at hl 0 rfl) ?_
        refine ki_eq (show (rdv h n df q) = takv h n df q x9 from by unfold takv; rw [if_neg (fun h9 => by rw [Int32.lt_iff_toInt_lt] at h9; rw [Int32.le_iff_toInt_le] at c32; omega)]) ?_
        refine lv_istore_n (lv' := [(3, .int (takv h n df q x9)), (2, .int (rdv h n df q)), (0, .ref x), (1, .int x9)]) hx hb dX2_draw_40 rfl hl (by decide) rfl (fun ls hl => ?_)
        refine lv_iload_n hx hb dX2_draw_41 rfl (lv_at hl 0 rfl) ?_
        refine lv_if_le (tgt := 72) hx hb dX2_draw_42 (by decide) (fun c42 => ?_) (fun c42 => ?_)
        · refine lv_iload_n hx hb dX2_draw_72 rfl (lv_at hl 0 rfl) ?_
          have hP : va_P D vwCl ([(x, EX r t d yg)] ++ (rowW r la bs cA (nI n) wm df (drQ h n df q x9) wd zs (drH h n df q x9) ++ (w4 ++ [(d, ED cI (drK dk h n df q x9))]))) H := by rw [(dr_no (dk := dk) c42).1, (dr_no (dk := dk) c42).2.1, (dr_no (dk := dk) c42).2.2]; exact hP
          have hD : va_D A ([(x, EX r t d yg)] ++ (rowW r la bs cA (nI n) wm df (drQ h n df q x9) wd zs (drH h n df q x9) ++ (w4 ++ [(d, ED cI (drK dk h n df q x9))]))) := by rw [(dr_no (dk := dk) c42).1, (dr_no (dk := dk) c42).2.1, (dr_no (dk := dk) c42).2.2]; exact hD
          refine vx_ret ?_
          refine W.widen (k := 1) (n := 6) (Nat.le_of_ble_eq_true rfl) (Nat.le_of_ble_eq_true rfl) ?_
          exact W.iret hx hb hr (fun t9 ht9 hW => ⟨⟨_, (), rfl, ⟨(nbadR c2 c9), rfl⟩, by rw [ht9]; exact hP, va_K.moved hW.alike hK, hD⟩, hS.F ht9⟩) hS.2.2 dX2_draw_73
        · have c42p := i32_pos c42
          obtain ⟨b, ho, hdf⟩ := rdv_pos (tak_pos c42p)
          have hbn : b < n := elO_lt h n b ho
          subst hdf
          obtain ⟨k1, k2, k3, k4⟩ := hdk (nbadR c2 c9) b ho c42p
          obtain ⟨e1, e2, e3⟩ := dr_yes (dk := dk) ho c42p
          refine lv_aload_n hx hb dX2_draw_45 rfl (lv_at hl 2 rfl) ?_
          refine va_get (D := D) (ci := 2) (v := .ref d) (C := RX2) (T := TX2) (N := 4) hx hb hts (by decide +kernel) hown hK hP (0) rfl rfl 2 (by decide) (hts (.fieldLink RX2 19 "VinegarLoft" "drawnByKind" "[I") (by decide +kernel)) (fun _ h9 => h9) rfl dX2_draw_46 ?_
          refine lv_aload_n hx hb dX2_draw_49 rfl (lv_at hl 2 rfl) ?_
          refine va_get (D := D) (ci := 2) (v := .ref r) (C := RX2) (T := TX2) (N := 4) hx hb hts (by decide +kernel) hown hK hP (0) rfl rfl 0 (by decide) (hts (.fieldLink RX2 10 "VinegarLoft" "row" "LVinegarLoft$Row;") (by decide +kernel)) (fun _ h9 => h9) rfl dX2_draw_50 ?_
          refine kr_d (W.runV (As := []) (rest := [.ref d]) ⟨hx, hb, hml, hown, hts⟩ (metX1_greatestAge l D r la bs cA n hn wm (nI b) q wd zs h hN) (cwV 0 hts gX2_draw_X1_greatestAge rfl rfl rfl (by decide +kernel) ⟨Nat.le_of_ble_eq_true rfl, Nat.le_of_ble_eq_true rfl⟩) (prV 1 0 RX1 TX1 5 rfl rfl (vj_mP hP) (hK.sub [0] rfl)) rfl rfl hl.1 rfl (lv_room (Nat.le_of_ble_eq_true rfl)) dX2_draw_53 ⟨Nat.le_of_ble_eq_true rfl, Nat.le_of_ble_eq_true rfl⟩) ?_
          refine kd_eq (show elG h (elO h n) = h (8 + b) from by rw [ho]; rfl) ?_
          refine kr_i (W.runS (As := [.double (h (8 + b))]) (rest := [.ref d]) ⟨hx, hb, hml, hown, hts⟩ (metX2_kindAt l D (h (8 + b)) (cmp_ne (hN b hbn).2.ne (NN.ne (by unfold NN; decide +kernel))) (cmp_ne (hN b hbn).2.ne (NN.ne (by unfold NN; decide +kernel)))) (va_cwS 1 hts gX2_draw_X2_kindAt rfl rfl rfl (by decide +kernel) ⟨Nat.le_of_ble_eq_true rfl, Nat.le_of_ble_eq_true rfl⟩) (prS (ws := []) (tys := []) (fun k q h => by simp at h) (hK.sub [] rfl)) rfl rfl hl.1 rfl (lv_room (Nat.le_of_ble_eq_true rfl)) dX2_draw_56 ⟨Nat.le_of_ble_eq_true rfl, Nat.le_of_ble_eq_true rfl⟩) ?_
          refine lv_dup2_11 hx hb dX2_draw_59 rfl rfl ?_
          refine va_iald hx hb hK hP (1 + (10 + w4.length)) 1 lofW_d rfl (vp_in_nI (kndN_lt _) (by decide)) dX2_draw_60 ?_
          refine ki_eq (show dk (nI (kndN (h (8 + b)))).toNatClampNeg = dk (kndN (h (8 + b))) from by rw [nI_clamp (by have := kndN_lt (h (8 + b)); omega)]) ?_
          refine lv_iload_n hx hb dX2_draw_61 rfl (lv_at hl 0 rfl) ?_
          refine lv_iadd hx hb dX2_draw_62 ?_
          refine va_iast hx hb hK hP hD hS (1 + (10 + w4.length)) 1 lofW_d rfl (vp_in_nI (kndN_lt _) (by decide)) dX2_draw_63 (fun H locs hP hD hS => ?_)
          rw [lofW_sd, nI_clamp (show kndN (h (8 + b)) < 2 ^ 31 by have := kndN_lt (h (8 + b)); omega)] at hP hD
          have hP : va_P D vwCl ([(x, EX r t d yg)] ++ (rowW r la bs cA (nI n) wm (nI b) q wd zs h ++ (w4 ++ [(d, ED cI (upd dk (kndN (h (8 + b))) ((dk (kndN (h (8 + b)))) + (takv h n (nI b) q x9))))]))) H := hP
          have hD : va_D A ([(x, EX r t d yg)] ++ (rowW r la bs cA (nI n) wm (nI b) q wd zs h ++ (w4 ++ [(d, ED cI (upd dk (kndN (h (8 + b))) ((dk (kndN (h (8 + b)))) + (takv h n (nI b) q x9))))]))) := hD
          refine lv_aload_n hx hb dX2_draw_64 rfl (lv_at hl 2 rfl) ?_
          refine va_get (D := D) (ci := 2) (v := .ref r) (C := RX2) (T := TX2) (N := 4) hx hb hts (by decide +kernel) hown hK hP (0) rfl rfl 0 (by decide) (hts (.fieldLink RX2 10 "VinegarLoft" "row" "LVinegarLoft$Row;") (by decide +kernel)) (fun _ h9 => h9) rfl dX2_draw_65 ?_
          refine lv_iload_n hx hb dX2_draw_68 rfl (lv_at hl 0 rfl) ?_
          refine kc_v (w1 := [(x, EX r t d yg)]) (w3 := (w4 ++ [(d, ED cI (upd dk (kndN (h (8 + b))) ((dk (kndN (h (8 + b)))) + (takv h n (nI b) q x9))))])) (va_runV (As := [.int (takv h n (nI b) q x9)]) (rest := []) ⟨hx, hb, hml, hown, hts⟩ (metX1_takeBottles l D H.size r la bs cA n hn wm q wd zs h b hbn (takv h n (nI b) q x9) k1 k2 k3 k4) (cwV 1 hts gX2_draw_X1_takeBottles rfl rfl rfl (by decide +kernel) ⟨Nat.le_of_ble_eq_true rfl, Nat.le_of_ble_eq_true rfl⟩) (pmV 1 0 RX1 TX1 5 rfl rfl (vj_mP hP) (hK.sub [0] rfl) (vj_mD hD)) rfl rfl hl.1 rfl (lv_room (Nat.le_of_ble_eq_true rfl)) dX2_draw_69 ⟨Nat.le_of_ble_eq_true rfl, Nat.le_of_ble_eq_true rfl⟩) hP hD hS hA (fun H locs hP hD hS => ?_)
          have hP : va_P D vwCl ([(x, EX r t d yg)] ++ (rowW r la bs cA (nI n) wm (nI b) (FP.dsub q (botv (takv h n (nI b) q x9))) wd zs (tkH h b (botv (takv h n (nI b) q x9))) ++ (w4 ++ [(d, ED cI (upd dk (kndN (h (8 + b))) ((dk (kndN (h (8 + b)))) + (takv h n (nI b) q x9))))]))) H := hP
          have hD : va_D A ([(x, EX r t d yg)] ++ (rowW r la bs cA (nI n) wm (nI b) (FP.dsub q (botv (takv h n (nI b) q x9))) wd zs (tkH h b (botv (takv h n (nI b) q x9))) ++ (w4 ++ [(d, ED cI (upd dk (kndN (h (8 + b))) ((dk (kndN (h (8 + b)))) + (takv h n (nI b) q x9))))]))) := hD
          refine lv_iload_n hx hb dX2_draw_72 rfl (lv_at hl 0 rfl) ?_
          have hP : va_P D vwCl ([(x, EX r t d yg)] ++ (rowW r la bs cA (nI n) wm (nI b) (drQ h n (nI b) q x9) wd zs (drH h n (nI b) q x9) ++ (w4 ++ [(d, ED cI (drK dk h n (nI b) q x9))]))) H := by rw [e1, e2, e3]; exact hP
          have hD : va_D A ([(x, EX r t d yg)] ++ (rowW r la bs cA (nI n) wm (nI b) (drQ h n (nI b) q x9) wd zs (drH h n (nI b) q x9) ++ (w4 ++ [(d, ED cI (drK dk h n (nI b) q x9))]))) := by rw [e1, e2, e3]; exact hD
          refine vx_ret ?_
          refine W.widen (k := 1) (n := 6) (Nat.le_of_ble_eq_true rfl) (Nat.le_of_ble_eq_true rfl) ?_
          exact W.iret hx hb hr (fun t9 ht9 hW => ⟨⟨_, (), rfl, ⟨(nbadR c2 c9), rfl⟩, by rw [ht9]; exact hP, va_K.moved hW.alike hK, hD⟩, hS.F ht9⟩) hS.2.2 dX2_draw_73
      · refine lv_iload_n hx hb dX2_draw_35 rfl (lv_at hl 2 rfl) ?_
        refine lv_goto (tgt := 40) hx hb dX2_draw_36 (by decide) ?_
        refine ki_eq (show x9 = takv h n df q x9 from by unfold takv; rw [if_pos (fa_nle c32)]) ?_
        refine lv_istore_n (lv' := [(3, .int (takv h n df q x9)), (2, .int (rdv h n df q)), (0, .ref x), (1, .int x9)]) hx hb dX2_draw_40 rfl hl (by decide) rfl (fun ls hl => ?_)
        refine lv_iload_n hx hb dX2_draw_41 rfl (lv_at hl 0 rfl) ?_
        refine lv_if_le (tgt := 72) hx hb dX2_draw_42 (by decide) (fun c42 => ?_) (fun c42 => ?_)
        · refine lv_iload_n hx hb dX2_draw_72 rfl (lv_at hl 0 rfl) ?_
          have hP : va_P D vwCl ([(x, EX r t d yg)] ++ (rowW r la bs cA (nI n) wm df (drQ h n df q x9) wd zs (drH h n df q x9) ++ (w4 ++ [(d, ED cI (drK dk h n df q x9))]))) H := by rw [(dr_no (dk := dk) c42).1, (dr_no (dk := dk) c42).2.1, (dr_no (dk := dk) c42).2.2]; exact hP
          have hD : va_D A ([(x, EX r t d yg)] ++ (rowW r la bs cA (nI n) wm df (drQ h n df q x9) wd zs (drH h n df q x9) ++ (w4 ++ [(d, ED cI (drK dk h n df q x9))]))) := by rw [(dr_no (dk := dk) c42).1, (dr_no (dk := dk) c42).2.1, (dr_no (dk := dk) c42).2.2]; exact hD
          refine vx_ret ?_
          refine W.widen (k := 1) (n := 6) (Nat.le_of_ble_eq_true rfl) (Nat.le_of_ble_eq_true rfl) ?_
          exact W.iret hx hb hr (fun t9 ht9 hW => ⟨⟨_, (), rfl, ⟨(nbadR c2 c9), rfl⟩, by rw [ht9]; exact hP, va_K.moved hW.alike hK, hD⟩, hS.F ht9⟩) hS.2.2 dX2_draw_73
        · have c42p := i32_pos c42
          obtain ⟨b, ho, hdf⟩ := rdv_pos (tak_pos c42p)
          have hbn : b < n := elO_lt h n b ho
          subst hdf
          obtain ⟨k1, k2, k3, k4⟩ := hdk (nbadR c2 c9) b ho c42p
          obtain ⟨e1, e2, e3⟩ := dr_yes (dk := dk) ho c42p
          refine lv_aload_n hx hb dX2_draw_45 rfl (lv_at hl 2 rfl) ?_
          refine va_get (D := D) (ci := 2) (v := .ref d) (C := RX2) (T := TX2) (N := 4) hx hb hts (by decide +kernel) hown hK hP (0) rfl rfl 2 (by decide) (hts (.fieldLink RX2 19 "VinegarLoft" "drawnByKind" "[I") (by decide +kernel)) (fun _ h9 => h9) rfl dX2_draw_46 ?_
          refine lv_aload_n hx hb dX2_draw_49 rfl (lv_at hl 2 rfl) ?_
          refine va_get (D := D) (ci := 2) (v := .ref r) (C := RX2) (T := TX2) (N := 4) hx hb hts (by decide +kernel) hown hK hP (0) rfl rfl 0 (by decide) (hts (.fieldLink RX2 10 "VinegarLoft" "row" "LVinegarLoft$Row;") (by decide +kernel)) (fun _ h9 => h9) rfl dX2_draw_50 ?_
          refine kr_d (W.runV (As := []) (rest := [.ref d]) ⟨hx, hb, hml, hown, hts⟩ (metX1_greatestAge l D r la bs cA n hn wm (nI b) q wd zs h hN) (cwV 0 hts gX2_draw_X1_greatestAge rfl rfl rfl (by decide +kernel) ⟨Nat.le_of_ble_eq_true rfl, Nat.le_of_ble_eq_true rfl⟩) (prV 1 0 RX1 TX1 5 rfl rfl (vj_mP hP) (hK.sub [0] rfl)) rfl rfl hl.1 rfl (lv_room (Nat.le_of_ble_eq_true rfl)) dX2_draw_53 ⟨Nat.le_of_ble_eq_true rfl, Nat.le_of_ble_eq_true rfl⟩) ?_
          refine kd_eq (show elG h (elO h n) = h (8 + b) from by rw [ho]; rfl) ?_
          refine kr_i (W.runS (As := [.double (h (8 + b))]) (rest := [.ref d]) ⟨hx, hb, hml, hown, hts⟩ (metX2_kindAt l D (h (8 + b)) (cmp_ne (hN b hbn).2.ne (NN.ne (by unfold NN; decide +kernel))) (cmp_ne (hN b hbn).2.ne (NN.ne (by unfold NN; decide +kernel)))) (va_cwS 1 hts gX2_draw_X2_kindAt rfl rfl rfl (by decide +kernel) ⟨Nat.le_of_ble_eq_true rfl, Nat.le_of_ble_eq_true rfl⟩) (prS (ws := []) (tys := []) (fun k q h => by simp at h) (hK.sub [] rfl)) rfl rfl hl.1 rfl (lv_room (Nat.le_of_ble_eq_true rfl)) dX2_draw_56 ⟨Nat.le_of_ble_eq_true rfl, Nat.le_of_ble_eq_true rfl⟩) ?_
          refine lv_dup2_11 hx hb dX2_draw_59 rfl rfl ?_
          refine va_iald hx hb hK hP (1 + (10 + w4.length)) 1 lofW_d rfl (vp_in_nI (kndN_lt _) (by decide)) dX2_draw_60 ?_
          refine ki_eq (show dk (nI (kndN (h (8 + b)))).toNatClampNeg = dk (kndN (h (8 + b))) from by rw [nI_clamp (by have := kndN_lt (h (8 + b)); omega)]) ?_
          refine lv_iload_n hx hb dX2_draw_61 rfl (lv_at hl 0 rfl) ?_
          refine lv_iadd hx hb dX2_draw_62 ?_
          refine va_iast hx hb hK hP hD hS (1 + (10 + w4.length)) 1 lofW_d rfl (vp_in_nI (kndN_lt _) (by decide)) dX2_draw_63 (fun H locs hP hD hS => ?_)
          rw [lofW_sd, nI_clamp (show kndN (h (8 + b)) < 2 ^ 31 by have := kndN_lt (h (8 + b)); omega)] at hP hD
          have hP : va_P D vwCl ([(x, EX r t d yg)] ++ (rowW r la bs cA (nI n) wm (nI b) q wd zs h ++ (w4 ++ [(d, ED cI (upd dk (kndN (h (8 + b))) ((dk (kndN (h (8 + b)))) + (takv h n (nI b) q x9))))]))) H := hP
          have hD : va_D A ([(x, EX r t d yg)] ++ (rowW r la bs cA (nI n) wm (nI b) q wd zs h ++ (w4 ++ [(d, ED cI (upd dk (kndN (h (8 + b))) ((dk (kndN (h (8 + b)))) + (takv h n (nI b) q x9))))]))) := hD
          refine lv_aload_n hx hb dX2_draw_64 rfl (lv_at hl 2 rfl) ?_
          refine va_get (D := D) (ci := 2) (v := .ref r) (C := RX2) (T := TX2) (N := 4) hx hb hts (by decide +kernel) hown hK hP (0) rfl rfl 0 (by decide) (hts (.fieldLink RX2 10 "VinegarLoft" "row" "LVinegarLoft$Row;") (by decide +kernel)) (fun _ h9 => h9) rfl dX2_draw_65 ?_
          refine lv_iload_n hx hb dX2_draw_68 rfl (lv_at hl 0 rfl) ?_
          refine kc_v (w1 := [(x, EX r t d yg)]) (w3 := (w4 ++ [(d, ED cI (upd dk (kndN (h (8 + b))) ((dk (kndN (h (8 + b)))) + (takv h n (nI b) q x9))))])) (va_runV (As := [.int (takv h n (nI b) q x9)]) (rest := []) ⟨hx, hb, hml, hown, hts⟩ (metX1_takeBottles l D H.size r la bs cA n hn wm q wd zs h b hbn (takv h n (nI b) q x9) k1 k2 k3 k4) (cwV 1 hts gX2_draw_X1_takeBottles rfl rfl rfl (by decide +kernel) ⟨Nat.le_of_ble_eq_true rfl, Nat.le_of_ble_eq_true rfl⟩) (pmV 1 0 RX1 TX1 5 rfl rfl (vj_mP hP) (hK.sub [0] rfl) (vj_mD hD)) rfl rfl hl.1 rfl (lv_room (Nat.le_of_ble_eq_true rfl)) dX2_draw_69 ⟨Nat.le_of_ble_eq_true rfl, Nat.le_of_ble_eq_true rfl⟩) hP hD hS hA (fun H locs hP hD hS => ?_)
          have hP : va_P D vwCl ([(x, EX r t d yg)] ++ (rowW r la bs cA (nI n) wm (nI b) (FP.dsub q (botv (takv h n (nI b) q x9))) wd zs (tkH h b (botv (takv h n (nI b) q x9))) ++ (w4 ++ [(d, ED cI (upd dk (kndN (h (8 + b))) ((dk (kndN (h (8 + b)))) + (takv h n (nI b) q x9))))]))) H := hP
          have hD : va_D A ([(x, EX r t d yg)] ++ (rowW r la bs cA (nI n) wm (nI b) (FP.dsub q (botv (takv h n (nI b) q x9))) wd zs (tkH h b (botv (takv h n (nI b) q x9))) ++ (w4 ++ [(d, ED cI (upd dk (kndN (h (8 + b))) ((dk (kndN (h (8 + b)))) + (takv h n (nI b) q x9))))]))) := hD
          refine lv_iload_n hx hb dX2_draw_72 rfl (lv_at hl 0 rfl) ?_
          have hP : va_P D vwCl ([(x, EX r t d yg)] ++ (rowW r la bs cA (nI n) wm (nI b) (drQ h n (nI b) q x9) wd zs (drH h n (nI b) q x9) ++ (w4 ++ [(d, ED cI (drK dk h n (nI b) q x9))]))) H := by rw [e1, e2, e3]; exact hP
          have hD : va_D A ([(x, EX r t d yg)] ++ (rowW r la bs cA (nI n) wm (nI b) (drQ h n (nI b) q x9) wd zs (drH h n (nI b) q x9) ++ (w4 ++ [(d, ED cI (drK dk h n (nI b) q x9))]))) := by rw [e1, e2, e3]; exact hD
          refine vx_ret ?_
          refine W.widen (k := 1) (n := 6) (Nat.le_of_ble_eq_true rfl) (Nat.le_of_ble_eq_true rfl) ?_
          exact W.iret hx hb hr (fun t9 ht9 hW => ⟨⟨_, (), rfl, ⟨(nbadR c2 c9), rfl⟩, by rw [ht9]; exact hP, va_K.moved hW.alike hK, hD⟩, hS.F ht9⟩) hS.2.2 dX2_draw_73
    · exact kx_throw (ik := 27) (is := 66) (ic := 31) (cls := xIAE) (text := "bottles out of range") hx hb hst hown hlocks (by decide) (hts (.classLink RX2 27 xIAE) (by decide +kernel)) (hts (.initialized xIAE) (by decide +kernel)) (by decide) (fun w h9 => hts w (List.mem_cons_of_mem _ (List.mem_append_right _ h9))) (by decide +kernel) (by decide +kernel) hX hS (hl.1.trans hml.symm) ht dX2_draw_12 dX2_draw_15 dX2_draw_16 dX2_draw_18 dX2_draw_21 ⟨Nat.le_of_ble_eq_true rfl, Nat.le_of_ble_eq_true rfl, Nat.le_of_ble_eq_true rfl, Nat.le_of_ble_eq_true rfl⟩ (⟨rfl, Or.inr (fa_nle c9)⟩) hP hK hD (fun q h => h) (Nat.le_of_ble_eq_true rfl) (Nat.le_of_ble_eq_true rfl)
end
section
/-! firstBottleIn (laid by wip/p23/prog/x2b.py): a year tried on the second row -/
theorem vP_mem {D : va_G} {cl : List vw_C} {ws : va_W} {H : Heap} : va_P D cl ws H ↔ ∀ q ∈ ws, va_at D cl q H := by
  constructor
  · intro h q hq
    obtain ⟨k, hk⟩ := List.getElem?_of_mem hq
    exact h k q hk
  · intro h k q hk
    exact h q (List.mem_of_getElem? hk)
theorem vP_perm {D : va_G} {cl : List vw_C} {ws ws' : va_W} {H : Heap} (hp : ws.Perm ws') (h : va_P D cl ws H) : va_P D cl ws' H := vP_mem.mpr fun q hq => vP_mem.mp h q (hp.mem_iff.mpr hq)
theorem vD_iff {A : Nat → Prop} {ws : va_W} : va_D A ws ↔ (ws.map (fun q => q.1)).Nodup ∧ ∀ q ∈ ws, A q.1 := by
  constructor
  · intro h
    refine ⟨List.pairwise_iff_getElem.mpr fun i j hi hj hij e => ?_, fun q hq => ?_⟩
    · rw [List.length_map] at hi hj
      have h1 := h.1 i j ws[i] ws[j] (List.getElem?_eq_getElem hi) (List.getElem?_eq_getElem hj) (by simpa using e)
      omega
    · obtain ⟨k, hk⟩ := List.getElem?_of_mem hq
      exact h.2 k q hk
  · rintro ⟨h1, h2⟩
    refine ⟨fun i j p q hi hj e => ?_, fun k q hk => h2 q (List.mem_of_getElem? hk)⟩
    have e1 : (ws.map (fun q => q.1))[i]? = some p.1 := by rw [List.getElem?_map, hi]; rfl
    have e2 : (ws.map (fun q => q.1))[j]? = some q.1 := by rw [List.getElem?_map, hj]; rfl
    exact (List.getElem?_inj (by rw [List.length_map]; exact (List.getElem?_eq_some_iff.mp hi).1) h1).mp (by rw [e1, e2, e])
theorem vD_perm {A : Nat → Prop} {ws ws' : va_W} (hp : ws.Perm ws') (h : va_D A ws) : va_D A ws' := by
  obtain ⟨h1, h2⟩ := vD_iff.mp h
  exact vD_iff.mpr ⟨(hp.map _).nodup_iff.mp h1, fun q hq => h2 q (hp.mem_iff.mpr hq)⟩
/-- a year tried: the first barrel filled up, the row topped up, the year -/
def stH (wd zs : Nat → Int32) (wm : Int32) (n : Nat) (h : Nat → UInt64) : Nat → UInt64 := agH wd (drv wm) (toH zs (n - 1) (pmH n zs h (FP.i2d 100))) n
def stI (wd zs : Nat → Int32) (wm : Int32) (n : Nat) : Nat → (Nat → UInt64) → Nat → UInt64
  | 0, h => h
  | k + 1, h => stH wd zs wm n (stI wd zs wm n k h)
def stR (wd zs : Nat → Int32) (wm : Int32) (n : Nat) (h : Nat → UInt64) : Int32 := rdv (stH wd zs wm n h) n (encO (elO (stH wd zs wm n h) n)) (quv (stH wd zs wm n h) (elO (stH wd zs wm n h) n))
def fbX (wd zs : Nat → Int32) (wm : Int32) (n : Nat) : Nat → Nat → (Nat → UInt64) → Int32
  | 0, _, _ => -1
  | f + 1, a, h => if 0 < stR wd zs wm n h then nI a else fbX wd zs wm n f (a + 1) (stH wd zs wm n h)
def fbv (wd zs : Nat → Int32) (wm : Int32) (n : Nat) (h : Nat → UInt64) (df : Int32) (q : UInt64) : Int32 := if 0 < rdv h n df q then 0 else fbX wd zs wm n 60 1 h
def stok (wd zs : Nat → Int32) (wm : Int32) (n : Nat) (h : Nat → UInt64) : Prop := (n ≠ 0 → pook (zs 0) h (FP.i2d 100)) ∧ took zs (n - 1) (pmH n zs h (FP.i2d 100)) 0 ∧ drok wm ∧ agok wd (drv wm) (toH zs (n - 1) (pmH n zs h (FP.i2d 100))) n ∧ NNr n (stH wd zs wm n h) ∧ (∀ b, b < n → vf_n64 (FP.dmul 4598175219545276416 (stH wd zs wm n h b))) ∧ rdok (stH wd zs wm n h) n (quv (stH wd zs wm n h) (elO (stH wd zs wm n h) n))
/-- nothing beyond the first n barrels -/
def zerI (n : Nat) (f : Nat → Int32) : Prop := ∀ k, n ≤ k → f k = 0
def zerH (n : Nat) (h : Nat → UInt64) : Prop := ∀ k, (32 ≤ k ∨ n ≤ k % 8) → h k = 0
theorem cpI_z {n : Nat} {f g : Nat → Int32} (h1 : zerI n f) (h2 : zerI n g) : cpI n f g = g := by
  funext k
  unfold cpI
  split
  · rfl
  · rw [h1 k (by omega), h2 k (by omega)]
theorem cpH_z {n : Nat} {f g : Nat → UInt64} (h1 : zerH n f) (h2 : zerH n g) : cpH n f g = g := by
  funext k
  unfold cpH
  split
  · rfl
  · rename_i h3
    have h4 : 32 ≤ k ∨ n ≤ k % 8 := by
      by_cases h5 : k < 32
      · exact Or.inr (Nat.le_of_not_lt fun h6 => h3 ⟨h5, h6⟩)
      · exact Or.inl (by omega)
    rw [h1 k h4, h2 k h4]
/-- the second row: anything, but nothing beyond the first n -/
def ZT (n nt : Nat) (wdt zst : Nat → Int32) (ht : Nat → UInt64) : Prop := nt ≤ 8 ∧ zerI n wdt ∧ zerI n zst ∧ zerH n ht
abbrev TRW : Type := Nat × Int32 × Int32 × UInt64 × (Nat → Int32) × (Nat → Int32) × (Nat → UInt64)
set_option maxHeartbeats 4000000 in
set_option maxRecDepth 100000 in
/-- firstBottleIn() -/
theorem metX2_firstBottleIn (l : Launch) (D : va_G) (sz : Nat) (x r t d : Nat) (yg : Int32) (la : Nat) (bs : Nat → Nat) (cA cI : ClassId) (n : Nat) (hn : n ≤ 8) (wm df : Int32) (q : UInt64) (wd zs : Nat → Int32) (h : Nat → UInt64) (lt : Nat) (bt : Nat → Nat) (nt : Nat) (wmt dft : Int32) (qt : UInt64) (wdt zst : Nat → Int32) (ht : Nat → UInt64) (dk : Nat → Int32) (hN : NNr n h) (hr9 : rdok h n q) (hok : ∀ i, i < 60 → stok wd zs wm n (stI wd zs wm n i h)) (hz0 : ZT n nt wdt zst ht) (hz1 : zerI n wd) (hz2 : zerI n zs) (hz3 : ∀ k, zerH n (stI wd zs wm n k h)) : Met l yX2_firstBottleIn wsX2_firstBottleIn { frames := 4, cells := 0, slots := 0, locals := 107 } (Pm D [(cA, .object "VinegarLoft$Barrel"), (cI, .int)] [.ref x] ([(x, EX r t d yg)] ++ (rowW r la bs cA (nI n) wm df q wd zs h ++ (rowW t lt bt cA (nI nt) wmt dft qt wdt zst ht ++ [(d, ED cI dk)]))) sz) (va_Qi (fun (r9 : Int32) (u : TRW) => r9 = fbv wd zs wm n h df q ∧ ZT n u.1 u.2.2.2.2.1 u.2.2.2.2.2.1 u.2.2.2.2.2.2) (fun u t9 => va_P D vwCl ([(x, EX r t d yg)] ++ (rowW r la bs cA (nI n) wm df q wd zs h ++ (rowW t lt bt cA (nI u.1) u.2.1 u.2.2.1 u.2.2.2.1 u.2.2.2.2.1 u.2.2.2.2.2.1 u.2.2.2.2.2.2 ++ [(d, ED cI dk)]))) t9.heap ∧ va_K D vwCl [(cA, .object "VinegarLoft$Barrel"), (cI, .int)] t9 ∧ va_D (va_A ([(x, EX r t d yg)] ++ (rowW r la bs cA (nI n) wm df q wd zs h ++ (rowW t lt bt cA (nI nt) wmt dft qt wdt zst ht ++ [(d, ED cI dk)]))) sz) ([(x, EX r t d yg)] ++ (rowW r la bs cA (nI n) wm df q wd zs h ++ (rowW t lt bt cA (nI u.1) u.2.1 u.2.2.1 u.2.2.2.1 u.2.2.2.2.1 u.2.2.2.2.2.1 u.2.2.2.2.2.2 ++ [(d, ED cI dk)])))) (va_A ([(x, EX r t d yg)] ++ (rowW r la bs cA (nI n) wm df q wd zs h ++ (rowW t lt bt cA (nI nt) wmt dft qt wdt zst ht ++ [(d, ED cI dk)]))) sz)) 0 0 (va_A ([(x, EX r t d yg)] ++ (rowW r la bs cA (nI n) wm df q wd zs h ++ (rowW t lt bt cA (nI nt) wmt dft qt wdt zst ht ++ [(d, ED cI dk)]))) sz) := by
  refine Met.ofW (cc := cX2_firstBottleIn) (maxL := 2) (ret := (some .int)) (by decide) rfl ?_
  intro p e s m args below meth c s₁ B hml hv
  obtain ⟨rfl, hsz, hP, hK, hD0⟩ := hv
  have hx := B.exec
  have hb := B.bytes
  have hr := B.returns
  have hts := atoms_spec (ws := wsX2_firstBottleIn) B.pre
  have hown : s.vm.findClass RX2 = some m.cls := findClass_of_methodNamed B.named
  have hlocks := B.notSynchronized
  subst hsz
  have hD := hD0.self (sz := s.heap.size)
  generalize hAe : va_A ([(x, EX r t d yg)] ++ (rowW r la bs cA (nI n) wm df q wd zs h ++ (rowW t lt bt cA (nI nt) wmt dft qt wdt zst ht ++ [(d, ED cI dk)]))) s.heap.size = A at hD ⊢
  have hA : ∀ q : Nat, s.heap.size ≤ q → A q := fun q h => by rw [← hAe]; exact Or.inr h
  refine kW_H (fun H hH => ?_)
  have hP : va_P D vwCl ([(x, EX r t d yg)] ++ (rowW r la bs cA (nI n) wm df q wd zs h ++ (rowW t lt bt cA (nI nt) wmt dft qt wdt zst ht ++ [(d, ED cI dk)]))) H := by rw [hH]; exact hP
  have hS : va_S A s.heap H [] := by rw [hH]; exact va_S.rf
  have hl := lv_entry ([.ref x]) (n := 2) (Nat.le_of_ble_eq_true rfl)
  rw [lg_entry_eq]
  generalize (lg_sl ([.ref x]) ++ List.replicate (2 - (lg_sl ([.ref x])).length) Slot.unset).toArray = ls at hl ⊢
  have hl : lv_has ls 2 [(0, .ref x)] := hl
  refine lv_aload_n hx hb dX2_firstBottleIn_0 rfl (lv_at hl 0 rfl) ?_
  refine va_get (D := D) (ci := 2) (v := .ref r) (C := RX2) (T := TX2) (N := 4) hx hb hts (by decide +kernel) hown hK hP (0) rfl rfl 0 (by decide) (hts (.fieldLink RX2 10 "VinegarLoft" "row" "LVinegarLoft$Row;") (by decide +kernel)) (fun _ h9 => h9) rfl dX2_firstBottleIn_1 ?_
  refine kr_i (W.runV (As := []) (rest := []) ⟨hx, hb, hml, hown, hts⟩ (metX1_bottlesReady l D r la bs cA n hn wm df q wd zs h hN hr9) (cwV 0 hts gX2_firstBottleIn_X1_bottlesReady rfl rfl rfl (by decide +kernel) ⟨Nat.le_of_ble_eq_true rfl, Nat.le_of_ble_eq_true rfl⟩) (prV 1 0 RX1 TX1 5 rfl rfl (vj_mP hP) (hK.sub [0] rfl)) rfl rfl hl.1 rfl (lv_room (Nat.le_of_ble_eq_true rfl)) dX2_firstBottleIn_4 ⟨Nat.le_of_ble_eq_true rfl, Nat.le_of_ble_eq_true rfl⟩) ?_
  refine lv_if_le (tgt := 12) hx hb dX2_firstBottleIn_7 (by decide) (fun c7 => ?_) (fun c7 => ?_)
  · refine lv_aload_n hx hb dX2_firstBottleIn_12 rfl (lv_at hl 0 rfl) ?_
    refine va_get (D := D) (ci := 2) (v := .ref t) (C := RX2) (T := TX2) (N := 4) hx hb hts (by decide +kernel) hown hK hP (0) rfl rfl 1 (by decide) (hts (.fieldLink RX2 16 "VinegarLoft" "trial" "LVinegarLoft$Row;") (by decide +kernel)) (fun _ h9 => h9) rfl dX2_firstBottleIn_13 ?_
    refine lv_aload_n hx hb dX2_firstBottleIn_16 rfl (lv_at hl 0 rfl) ?_
    refine va_get (D := D) (ci := 2) (v := .ref r) (C := RX2) (T := TX2) (N := 4) hx hb hts (by decide +kernel) hown hK hP (0) rfl rfl 0 (by decide) (hts (.fieldLink RX2 10 "VinegarLoft" "row" "LVinegarLoft$Row;") (by decide +kernel)) (fun _ h9 => h9) rfl dX2_firstBottleIn_17 ?_
    have hP : va_P D vwCl ([(x, EX r t d yg)] ++ ((rowW t lt bt cA (nI nt) wmt dft qt wdt zst ht ++ rowW r la bs cA (nI n) wm df q wd zs h) ++ [(d, ED cI dk)])) H := by rw [List.append_assoc]; exact vP_perm ((List.perm_append_comm_assoc _ _ _).append_left _) hP
    have hD : va_D A ([(x, EX r t d yg)] ++ ((rowW t lt bt cA (nI nt) wmt dft qt wdt zst ht ++ rowW r la bs cA (nI n) wm df q wd zs h) ++ [(d, ED cI dk)])) := by rw [List.append_assoc]; exact vD_perm ((List.perm_append_comm_assoc _ _ _).append_left _) hD
    refine kc_v (w1 := [(x, EX r t d yg)]) (w3 := [(d, ED cI dk)]) (va_runV (As := [.ref r]) (rest := []) ⟨hx, hb, hml, hown, hts⟩ (metX1_copyFrom l D H.size t lt bt cA nt hz0.1 wmt dft qt wdt zst ht r la bs n hn wm df q wd zs h) (cwV 1 hts gX2_firstBottleIn_X1_copyFrom rfl rfl rfl (by decide +kernel) ⟨Nat.le_of_ble_eq_true rfl, Nat.le_of_ble_eq_true rfl⟩) (pmV 1 0 RX1 TX1 5 rfl rfl (vj_mP hP) (hK.sub [0] rfl) (vj_mD hD)) rfl rfl hl.1 rfl (lv_room (Nat.le_of_ble_eq_true rfl)) dX2_firstBottleIn_20 ⟨Nat.le_of_ble_eq_true rfl, Nat.le_of_ble_eq_true rfl⟩) hP hD hS hA (fun H locs hP hD hS => ?_)
    rw [cpI_z hz0.2.1 hz1, cpI_z hz0.2.2.1 hz2, cpH_z hz0.2.2.2 (show zerH n h from hz3 0), List.append_assoc] at hP hD
    have hP : va_P D vwCl (([(x, EX r t d yg)] ++ rowW r la bs cA (nI n) wm df q wd zs h) ++ (rowW t lt bt cA (nI n) wm df q wd zs h ++ [(d, ED cI dk)])) H := by rw [List.append_assoc]; exact vP_perm ((List.perm_append_comm_assoc _ _ _).append_left _) hP
    have hD : va_D A (([(x, EX r t d yg)] ++ rowW r la bs cA (nI n) wm df q wd zs h) ++ (rowW t lt bt cA (nI n) wm df q wd zs h ++ [(d, ED cI dk)])) := by rw [List.append_assoc]; exact vD_perm ((List.perm_append_comm_assoc _ _ _).append_left _) hD
    refine lv_iconst (v := 1) hx hb dX2_firstBottleIn_23 (by decide) ?_
    refine lv_istore_n (lv' := [(1, .int 1), (0, .ref x)]) hx hb dX2_firstBottleIn_24 rfl hl (by decide) rfl (fun ls hl => ?_)
    refine kW_up 60 (fun i H locs ls => ∃ (df' : Int32) (q' : UInt64), fbX wd zs wm n (60 - i) (i + 1) (stI wd zs wm n i h) = fbX wd zs wm n 60 1 h ∧ va_P D vwCl (([(x, EX r t d yg)] ++ rowW r la bs cA (nI n) wm df q wd zs h) ++ (rowW t lt bt cA (nI n) wm (df') (q') wd zs (stI wd zs wm n i h) ++ [(d, ED cI dk)])) H ∧ va_D A (([(x, EX r t d yg)] ++ rowW r la bs cA (nI n) wm df q wd zs h) ++ (rowW t lt bt cA (nI n) wm (df') (q') wd zs (stI wd zs wm n i h) ++ [(d, ED cI dk)])) ∧ va_S A s.heap H locs ∧ lv_has ls 2 [(1, .int (nI (i + 1))), (0, .ref x)]) (fun i H locs ls hi hI ih => ?_) (fun H locs ls hI => ?_) ⟨df, q, rfl, hP, hD, hS, lv_sub hl [0, 1] rfl⟩
    · obtain ⟨df', q', e1, hP, hD, hS, hl⟩ := hI
      obtain ⟨s1, s2, s3, s4, s5, s6, s7⟩ := hok i hi
      have e0 : 60 - i = (60 - (i + 1)) + 1 := by omega
      rw [e0] at e1
      have e1' : (if 0 < stR wd zs wm n (stI wd zs wm n i h) then nI (i + 1) else fbX wd zs wm n (60 - (i + 1)) (i + 1 + 1) (stI wd zs wm n (i + 1) h)) = fbX wd zs wm n 60 1 h := e1
      refine lv_iload_n hx hb dX2_firstBottleIn_25 rfl (lv_at hl 0 rfl) ?_
      refine lv_bipush (v := 60) hx hb dX2_firstBottleIn_26 (by decide) ?_
      refine lv_icmp_gt (tgt := 75) hx hb dX2_firstBottleIn_28 (by decide) (fun c28 => absurd c28 (fun h9 => absurd ((nI_ltI (a := 60) (b := i + 1) (by decide) (by omega)).mp h9) (by omega))) (fun c28 => ?_)
      refine lv_aload_n hx hb dX2_firstBottleIn_31 rfl (lv_at hl 1 rfl) ?_
      refine va_get (D := D) (ci := 2) (v := .ref t) (C := RX2) (T := TX2) (N := 4) hx hb hts (by decide +kernel) hown hK hP (0) rfl rfl 1 (by decide) (hts (.fieldLink RX2 16 "VinegarLoft" "trial" "LVinegarLoft$Row;") (by decide +kernel)) (fun _ h9 => h9) rfl dX2_firstBottleIn_32 ?_
      refine lv_bipush (v := 100) hx hb dX2_firstBottleIn_35 (by decide) ?_
      refine kc_d (w1 := [(x, EX r t d yg)] ++ rowW r la bs cA (nI n) wm df q wd zs h) (w3 := [(d, ED cI dk)]) (va_runV (As := [.int 100]) (rest := []) ⟨hx, hb, hml, hown, hts⟩ (metX1_pourMust l D H.size t lt bt cA n hn wm df' q' wd zs (stI wd zs wm n i h) 100 s1) (cwV 1 hts gX2_firstBottleIn_X1_pourMust rfl rfl rfl (by decide +kernel) ⟨Nat.le_of_ble_eq_true rfl, Nat.le_of_ble_eq_true rfl⟩) (pmV 1 0 RX1 TX1 5 rfl rfl (vj_mP hP) (hK.sub [0] rfl) (vj_mD hD)) rfl rfl hl.1 rfl (lv_room (Nat.le_of_ble_eq_true rfl)) dX2_firstBottleIn_37 ⟨Nat.le_of_ble_eq_true rfl, Nat.le_of_ble_eq_true rfl⟩) hP hD hS hA (fun H locs hP hD hS => ?_)
      have hP : va_P D vwCl (([(x, EX r t d yg)] ++ rowW r la bs cA (nI n) wm df q wd zs h) ++ (rowW t lt bt cA (nI n) wm (df') (q') wd zs (pmH n zs (stI wd zs wm n i h) (FP.i2d 100)) ++ [(d, ED cI dk)])) H := hP
      have hD : va_D A (([(x, EX r t d yg)] ++ rowW r la bs cA (nI n) wm df q wd zs h) ++ (rowW t lt bt cA (nI n) wm (df') (q') wd zs (pmH n zs (stI wd zs wm n i h) (FP.i2d 100)) ++ [(d, ED cI dk)])) := hD
      refine lv_pop2_2 hx hb dX2_firstBottleIn_40 rfl ?_
      refine lv_aload_n hx hb dX2_firstBottleIn_41 rfl (lv_at hl 1 rfl) ?_
      refine va_get (D := D) (ci := 2) (v := .ref t) (C := RX2) (T := TX2) (N := 4) hx hb hts (by decide +kernel) hown hK hP (0) rfl rfl 1 (by decide) (hts (.fieldLink RX2 16 "VinegarLoft" "trial" "LVinegarLoft$Row;") (by decide +kernel)) (fun _ h9 => h9) rfl dX2_firstBottleIn_42 ?_
      refine kc_d (w1 := [(x, EX r t d yg)] ++ rowW r la bs cA (nI n) wm df q wd zs h) (w3 := [(d, ED cI dk)]) (va_runV (As := []) (rest := []) ⟨hx, hb, hml, hown, hts⟩ (metX1_passDown l D H.size t lt bt cA n hn wm df' q' wd zs (pmH n zs (stI wd zs wm n i h) (FP.i2d 100)) s2) (cwV 0 hts gX2_firstBottleIn_X1_passDown rfl rfl rfl (by decide +kernel) ⟨Nat.le_of_ble_eq_true rfl, Nat.le_of_ble_eq_true rfl⟩) (pmV 1 0 RX1 TX1 5 rfl rfl (vj_mP hP) (hK.sub [0] rfl) (vj_mD hD)) rfl rfl hl.1 rfl (lv_room (Nat.le_of_ble_eq_true rfl)) dX2_firstBottleIn_45 ⟨Nat.le_of_ble_eq_true rfl, Nat.le_of_ble_eq_true rfl⟩) hP hD hS hA (fun H locs hP hD hS => ?_)
      have hP : va_P D vwCl (([(x, EX r t d yg)] ++ rowW r la bs cA (nI n) wm df q wd zs h) ++ (rowW t lt bt cA (nI n) wm (df') (q') wd zs (toH zs (n - 1) (pmH n zs (stI wd zs wm n i h) (FP.i2d 100))) ++ [(d, ED cI dk)])) H := hP
      have hD : va_D A (([(x, EX r t d yg)] ++ rowW r la bs cA (nI n) wm df q wd zs h) ++ (rowW t lt bt cA (nI n) wm (df') (q') wd zs (toH zs (n - 1) (pmH n zs (stI wd zs wm n i h) (FP.i2d 100))) ++ [(d, ED cI dk)])) := hD
      refine lv_pop2_2 hx hb dX2_firstBottleIn_48 rfl ?_
      refine lv_aload_n hx hb dX2_firstBottleIn_49 rfl (lv_at hl 1 rfl) ?_
      refine va_get (D := D) (ci := 2) (v := .ref t) (C := RX2) (T := TX2) (N := 4) hx hb hts (by decide +kernel) hown hK hP (0) rfl rfl 1 (by decide) (hts (.fieldLink RX2 16 "VinegarLoft" "trial" "LVinegarLoft$Row;") (by decide +kernel)) (fun _ h9 => h9) rfl dX2_firstBottleIn_50 ?_
      refine kc_d (w1 := [(x, EX r t d yg)] ++ rowW r la bs cA (nI n) wm df q wd zs h) (w3 := [(d, ED cI dk)]) (va_runV (As := []) (rest := []) ⟨hx, hb, hml, hown, hts⟩ (metX1_ageAll l D H.size t lt bt cA n hn wm df' q' wd zs (toH zs (n - 1) (pmH n zs (stI wd zs wm n i h) (FP.i2d 100))) s3 s4 s5 s6) (cwV 0 hts gX2_firstBottleIn_X1_ageAll rfl rfl rfl (by decide +kernel) ⟨Nat.le_of_ble_eq_true rfl, Nat.le_of_ble_eq_true rfl⟩) (pmV 1 0 RX1 TX1 5 rfl rfl (vj_mP hP) (hK.sub [0] rfl) (vj_mD hD)) rfl rfl hl.1 rfl (lv_room (Nat.le_of_ble_eq_true rfl)) dX2_firstBottleIn_53 ⟨Nat.le_of_ble_eq_true rfl, Nat.le_of_ble_eq_true rfl⟩) hP hD hS hA (fun H locs hP hD hS => ?_)
      have hP : va_P D vwCl (([(x, EX r t d yg)] ++ rowW r la bs cA (nI n) wm df q wd zs h) ++ (rowW t lt bt cA (nI n) wm (encO (elO (stI wd zs wm n (i + 1) h) n)) (quv (stI wd zs wm n (i + 1) h) (elO (stI wd zs wm n (i + 1) h) n)) wd zs (stI wd zs wm n (i + 1) h) ++ [(d, ED cI dk)])) H := hP
      have hD : va_D A (([(x, EX r t d yg)] ++ rowW r la bs cA (nI n) wm df q wd zs h) ++ (rowW t lt bt cA (nI n) wm (encO (elO (stI wd zs wm n (i + 1) h) n)) (quv (stI wd zs wm n (i + 1) h) (elO (stI wd zs wm n (i + 1) h) n)) wd zs (stI wd zs wm n (i + 1) h) ++ [(d, ED cI dk)])) := hD
      refine lv_pop2_2 hx hb dX2_firstBottleIn_56 rfl ?_
      refine lv_aload_n hx hb dX2_firstBottleIn_57 rfl (lv_at hl 1 rfl) ?_
      refine va_get (D := D) (ci := 2) (v := .ref t) (C := RX2) (T := TX2) (N := 4) hx hb hts (by decide +kernel) hown hK hP (0) rfl rfl 1 (by decide) (hts (.fieldLink RX2 16 "VinegarLoft" "trial" "LVinegarLoft$Row;") (by decide +kernel)) (fun _ h9 => h9) rfl dX2_firstBottleIn_58 ?_
      refine kr_i (W.runV (As := []) (rest := []) ⟨hx, hb, hml, hown, hts⟩ (metX1_bottlesReady l D t lt bt cA n hn wm (encO (elO (stH wd zs wm n (stI wd zs wm n i h)) n)) (quv (stH wd zs wm n (stI wd zs wm n i h)) (elO (stH wd zs wm n (stI wd zs wm n i h)) n)) wd zs (stH wd zs wm n (stI wd zs wm n i h)) s5 s7) (cwV 0 hts gX2_firstBottleIn_X1_bottlesReady rfl rfl rfl (by decide +kernel) ⟨Nat.le_of_ble_eq_true rfl, Nat.le_of_ble_eq_true rfl⟩) (prV 1 0 RX1 TX1 5 rfl rfl (vj_mP hP) (hK.sub [0] rfl)) rfl rfl hl.1 rfl (lv_room (Nat.le_of_ble_eq_true rfl)) dX2_firstBottleIn_61 ⟨Nat.le_of_ble_eq_true rfl, Nat.le_of_ble_eq_true rfl⟩) ?_
      refine lv_if_le (tgt := 69) hx hb dX2_firstBottleIn_64 (by decide) (fun c64 => ?_) (fun c64 => ?_)
      · have e2 : fbX wd zs wm n (60 - (i + 1)) (i + 1 + 1) (stI wd zs wm n (i + 1) h) = fbX wd zs wm n 60 1 h := by rw [← e1', if_neg (show ¬ 0 < stR wd zs wm n (stI wd zs wm n i h) from i32_nlt c64)]
        refine lv_iinc (v := nI (i + 1 + 1)) (lv' := [(1, .int (nI (i + 1 + 1))), (0, .ref x)]) hx hb dX2_firstBottleIn_69 hl (k := 0) rfl (nI_1 (i + 1)) (by decide) rfl (fun ls hl => ?_)
        refine lv_goto (tgt := 25) hx hb dX2_firstBottleIn_72 (by decide) ?_
        exact ih H locs ls ⟨_, _, e2, hP, hD, hS, lv_sub hl [0, 1] rfl⟩
      · refine lv_iload_n hx hb dX2_firstBottleIn_67 rfl (lv_at hl 0 rfl) ?_
        rw [List.append_assoc] at hP hD
        exact W.iret hx hb hr (fun t9 ht9 hW => ⟨⟨_, (n, wm, encO (elO (stI wd zs wm n (i + 1) h) n), quv (stI wd zs wm n (i + 1) h) (elO (stI wd zs wm n (i + 1) h) n), wd, zs, (stI wd zs wm n (i + 1) h)), rfl, ⟨by unfold fbv; rw [if_neg (i32_nlt c7), ← e1', if_pos (show 0 < stR wd zs wm n (stI wd zs wm n i h) from i32_pos c64)], ⟨hn, hz1, hz2, hz3 (i + 1)⟩⟩, by rw [ht9]; exact hP, va_K.moved hW.alike hK, hD⟩, hS.F ht9⟩) hS.2.2 dX2_firstBottleIn_68
    · obtain ⟨df', q', e1, hP, hD, hS, hl⟩ := hI
      refine lv_iload_n hx hb dX2_firstBottleIn_25 rfl (lv_at hl 0 rfl) ?_
      refine lv_bipush (v := 60) hx hb dX2_firstBottleIn_26 (by decide) ?_
      refine lv_icmp_gt (tgt := 75) hx hb dX2_firstBottleIn_28 (by decide) (fun c28 => ?_) (fun c28 => absurd (by decide) c28)
      refine lv_iconst (v := (-1)) hx hb dX2_firstBottleIn_75 (by decide) ?_
      rw [List.append_assoc] at hP hD
      exact W.iret hx hb hr (fun t9 ht9 hW => ⟨⟨_, (n, wm, df', q', wd, zs, (stI wd zs wm n 60 h)), rfl, ⟨by unfold fbv; rw [if_neg (i32_nlt c7), ← e1]; rfl, ⟨hn, hz1, hz2, hz3 60⟩⟩, by rw [ht9]; exact hP, va_K.moved hW.alike hK, hD⟩, hS.F ht9⟩) hS.2.2 dX2_firstBottleIn_76
  · refine lv_iconst (v := 0) hx hb dX2_firstBottleIn_10 (by decide) ?_
    exact W.iret hx hb hr (fun t9 ht9 hW => ⟨⟨_, (nt, wmt, dft, qt, wdt, zst, ht), rfl, ⟨by unfold fbv; rw [if_pos (i32_pos c7)], hz0⟩, by rw [ht9]; exact hP, va_K.moved hW.alike hK, hD⟩, hS.F ht9⟩) hS.2.2 dX2_firstBottleIn_11
end
section
/-! VinegarLoft's constructor (laid by wip/p23/prog/x2c.py) -/
section KIV
variable {p : Program} {l : Launch} {e : Env} {R : Room} {s : State} {m : MethodId} {args : Array Value} {below : List Frame} {meth : Method} {c : Code} {H H0 : Heap} {locs : List Loc} {cells slots : Nat} {Q : State → Prop} {D : va_G} {A0 : Nat → Prop} {pc : Nat} {ls : Array Slot} {rest st0 : List Value} {w1 w2 w3 : va_W} {mc ms : Nat} {aa : Array Value}
/-- a constructor's call, in the middle part: what it made is named -/
theorem kI_v {S : Type} {w2' : S → va_W} {tk : S → List (ClassId × FieldType)} (hr : va_Run p l e R s m args below meth c H locs cells slots mc ms (F0 m pc ls st0) rest (va_Qv (fun (_ : S) => True) (fun u t => va_P D vwCl (w2' u) t.heap ∧ va_K D vwCl (tk u) t ∧ va_D (va_A w2 H.size) (w2' u)) (va_A w2 H.size) aa) (va_A w2 H.size)) (hP : va_P D vwCl (w1 ++ (w2 ++ w3)) H) (hD : va_D A0 (w1 ++ (w2 ++ w3))) (hS : va_S A0 H0 H locs) (hA : ∀ q, H0.size ≤ q → A0 q)
    (kk : ∀ (u : S) (H1 : Heap) (locs1 : List Loc), va_K D vwCl (tk u) s → va_P D vwCl (w1 ++ (w2' u ++ w3)) H1 → va_D A0 (w1 ++ (w2' u ++ w3)) → va_S A0 H0 H1 locs1 → W p l e R s m args below meth c H1 locs1 (cells + mc) (slots + ms) Q (F0 m (pc + 3) ls rest)) : W p l e R s m args below meth c H locs cells slots Q (F0 m pc ls st0) := by
  refine va_callv hr hS (fun q _ h => vj_mF hD hS hA q h) (vj_mF hD hS hA) (fun u t H1 locs1 ht hvm hw hB hz hk hS1 => ?_)
  obtain ⟨hP1, hK1, hD1⟩ := hB
  rw [ht] at hP1
  obtain ⟨hP2, hD2⟩ := vj_mid hP hD hk (vj_mF hD hS hA) hP1 hD1
  exact kk u H1 locs1 (hK1.moved hvm.symm) hP2 hD2 hS1
end KIV
/-- the arrays of one type have one class -/
theorem va_K_cA {D : va_G} {s : State} {a b : ClassId} {C : String} (h1 : va_K D vwCl [(a, .object C)] s) (h2 : va_K D vwCl [(b, .object C)] s) : a = b := by
  obtain ⟨-, -, -, -, -, f1⟩ := (h1.2 0 _ rfl).2
  obtain ⟨-, -, -, -, -, f2⟩ := (h2.2 0 _ rfl).2
  exact Option.some.inj (f1.symm.trans f2)
/-- a loft as it is made -/
abbrev loft0 (x r t d la lt : Nat) (bs bt : Nat → Nat) (cA cI : ClassId) : va_W := [(x, EX r t d 0)] ++ (row0 r la bs cA ++ (row0 t lt bt cA ++ [(d, ED cI (fun _ => 0))]))
abbrev LMK : Type := Nat × Nat × Nat × Nat × Nat × (Nat → Nat) × (Nat → Nat) × ClassId × ClassId
abbrev loftU (x : Nat) (u : LMK) : va_W := loft0 x u.1 u.2.1 u.2.2.1 u.2.2.2.1 u.2.2.2.2.1 u.2.2.2.2.2.1 u.2.2.2.2.2.2.1 u.2.2.2.2.2.2.2.1 u.2.2.2.2.2.2.2.2
abbrev tysU (u : LMK) : List (ClassId × FieldType) := [(u.2.2.2.2.2.2.2.1, .object "VinegarLoft$Barrel"), (u.2.2.2.2.2.2.2.2, .int)]
set_option maxHeartbeats 4000000 in
set_option maxRecDepth 100000 in
/-- VinegarLoft(): two empty rows, no bottles -/
theorem metX2_init (l : Launch) (D : va_G) (sz : Nat) (x : Nat) : Met l yX2_init wsX2_init { frames := 3, cells := 21, slots := 125, locals := 53 } (Pi D [.ref x] [(x, .inr (2, [.null, .null, .null, .int 0]))] sz) (va_Qv (fun (_ : LMK) => True) (fun u t => va_P D vwCl (loftU x u) t.heap ∧ va_K D vwCl (tysU u) t ∧ va_D (va_A [(x, .inr (2, [.null, .null, .null, .int 0]))] sz) (loftU x u)) (va_A [(x, .inr (2, [.null, .null, .null, .int 0]))] sz)) 21 125 (va_A [(x, .inr (2, [.null, .null, .null, .int 0]))] sz) := by
  refine Met.ofW (cc := cX2_init) (maxL := 1) (ret := none) (by decide) rfl ?_
  intro p e s m args below meth c s₁ B hml hv
  obtain ⟨rfl, hsz, hP, hK, hD0, hO, hNw⟩ := hv
  have hx := B.exec
  have hb := B.bytes
  have hr := B.returns
  have hts := atoms_spec (ws := wsX2_init) B.pre
  have hown : s.vm.findClass RX2 = some m.cls := findClass_of_methodNamed B.named
  have hlocks := B.notSynchronized
  have hin : meth.name = "<init>" := (name_of_methodNamed B.named B.method).1
  subst hsz
  have hD := hD0.self (sz := s.heap.size)
  generalize hAe : va_A [(x, .inr (2, [.null, .null, .null, .int 0]))] s.heap.size = A at hD ⊢
  have hA : ∀ q : Nat, s.heap.size ≤ q → A q := fun q h => by rw [← hAe]; exact Or.inr h
  refine kW_H (fun H hH => ?_)
  have hP : va_P D vwCl [(x, .inr (2, [.null, .null, .null, .int 0]))] H := by rw [hH]; exact hP
  have hS : va_S A s.heap H [] := by rw [hH]; exact va_S.rf
  have hl := lv_entry ([.ref x]) (n := 1) (Nat.le_of_ble_eq_true rfl)
  rw [lg_entry_eq]
  generalize (lg_sl ([.ref x]) ++ List.replicate (1 - (lg_sl ([.ref x])).length) Slot.unset).toArray = ls at hl ⊢
  have hl : lv_has ls 1 [(0, .ref x)] := hl
  refine lv_aload_n hx hb dX2_init_0 rfl (lv_at hl 0 rfl) ?_
  refine W.objInit hx hb hown (hts (.methodLink RX2 1 objectInit) (by decide +kernel)) (hts (.instanceMethod objectInit) (by decide +kernel)) (hts (.code objectInit ⟨#[0xb1]⟩ 1 none) (by decide +kernel)) rfl (by rw [hml]; exact hl.1) rfl dX2_init_1 (Nat.le_of_ble_eq_true rfl) (Nat.le_of_ble_eq_true rfl) ?_
  refine W.eq (g2 := F0 m 4 ls []) rfl ?_
  refine lv_aload_n hx hb dX2_init_4 rfl (lv_at hl 0 rfl) ?_
  have hK0 : va_K D vwCl [] s := hK.sub [] rfl
  refine va_new (ci := 1) (fs := [.null, .int 0, .int 0, .int 0, .double 0]) (C := RX1) (T := TX1) (N := 5) hx hb hts (by decide +kernel) tyX1 tyX1_ok hown (hts (.classLink RX2 7 RX1) (by decide +kernel)) (hts (.instantiable RX1 5) (by decide +kernel)) (hts (.initialized RX1) (by decide +kernel)) hK0 hP hD hS hA rfl (fun j hj => by rcases (show j = 0 ∨ j = 1 ∨ j = 2 ∨ j = 3 ∨ j = 4 by omega) with rfl | rfl | rfl | rfl | rfl <;> rfl) (Nat.le_of_ble_eq_true rfl) (Nat.le_of_ble_eq_true rfl) dX2_init_5 (fun r H hP hD hS => ?_)
  have hP : va_P D vwCl ([(x, .inr (2, [.null, .null, .null, .int 0]))] ++ [(r, .inr (1, [.null, .int 0, .int 0, .int 0, .double 0]))]) H := hP
  have hD : va_D A ([(x, .inr (2, [.null, .null, .null, .int 0]))] ++ [(r, .inr (1, [.null, .int 0, .int 0, .int 0, .double 0]))]) := hD
  refine lv_dup hx hb dX2_init_8 rfl ?_
  have hP : va_P D vwCl (([(x, .inr (2, [.null, .null, .null, .int 0]))]) ++ ([(r, .inr (1, [.null, .int 0, .int 0, .int 0, .double 0]))] ++ [])) H := hP
  have hD : va_D A (([(x, .inr (2, [.null, .null, .null, .int 0]))]) ++ ([(r, .inr (1, [.null, .int 0, .int 0, .int 0, .double 0]))] ++ [])) := hD
  refine kI_v (S := Nat × (Nat → Nat) × ClassId) (w2' := fun u => row0 r u.1 u.2.1 u.2.2) (tk := fun u => [(u.2.2, .object "VinegarLoft$Barrel")]) (w1 := [(x, .inr (2, [.null, .null, .null, .int 0]))]) (w2 := [(r, .inr (1, [.null, .int 0, .int 0, .int 0, .double 0]))]) (w3 := []) (va_runI (As := []) (rest := [.ref r, .ref x]) ⟨hx, hb, hml, hown, hts⟩ (metX1_init l D H.size r) (cwI 0 hts gX2_init_X1_init rfl rfl rfl (hts (.initialized RX1) (by decide +kernel)) (hts (.methodLink RX2 9 yX1_init) (by decide +kernel)) (hts (.instanceMethod yX1_init) (by decide +kernel)) rfl (by decide +kernel) ⟨Nat.le_of_ble_eq_true rfl, Nat.le_of_ble_eq_true rfl⟩) (piS (vj_mP hP) (hK.sub [] rfl) (vj_mD hD) hO hNw) rfl rfl hl.1 rfl (lv_room (Nat.le_of_ble_eq_true rfl)) dX2_init_9 ⟨Nat.le_of_ble_eq_true rfl, Nat.le_of_ble_eq_true rfl⟩) hP hD hS hA (fun u9 H locs hK1 hP hD hS => ?_)
  obtain ⟨la, bs, cA⟩ := u9
  have hK : va_K D vwCl [(cA, .object "VinegarLoft$Barrel")] s := hK1
  have hKA := hK
  have hP : va_P D vwCl ([(x, .inr (2, [.null, .null, .null, .int 0]))] ++ row0 r la bs cA) H := hP
  have hD : va_D A ([(x, .inr (2, [.null, .null, .null, .int 0]))] ++ row0 r la bs cA) := hD
  refine va_putF (D := D) (ci := 2) (v := .ref r) (ty := .object "VinegarLoft$Row") (C := RX2) (T := TX2) (N := 4) hx hb hts (by decide +kernel) tyX2 tyX2_ok nmX2 hown hK hP hD hS (0) rfl rfl 0 (by decide) (hts (.fieldLink RX2 10 "VinegarLoft" "row" "LVinegarLoft$Row;") (by decide +kernel)) (fun _ h9 => h9) rfl hin rfl (by decide +kernel) rfl rfl (Nat.le_of_ble_eq_true rfl) dX2_init_12 (fun H locs hP hD hS => ?_)
  have hP : va_P D vwCl ([(x, .inr (2, [.ref r, .null, .null, .int 0]))] ++ row0 r la bs cA) H := hP
  have hD : va_D A ([(x, .inr (2, [.ref r, .null, .null, .int 0]))] ++ row0 r la bs cA) := hD
  refine lv_aload_n hx hb dX2_init_15 rfl (lv_at hl 0 rfl) ?_
  have hK0 : va_K D vwCl [] s := hK.sub [] rfl
  refine va_new (ci := 1) (fs := [.null, .int 0, .int 0, .int 0, .double 0]) (C := RX1) (T := TX1) (N := 5) hx hb hts (by decide +kernel) tyX1 tyX1_ok hown (hts (.classLink RX2 7 RX1) (by decide +kernel)) (hts (.instantiable RX1 5) (by decide +kernel)) (hts (.initialized RX1) (by decide +kernel)) hK0 hP hD hS hA rfl (fun j hj => by rcases (show j = 0 ∨ j = 1 ∨ j = 2 ∨ j = 3 ∨ j = 4 by omega) with rfl | rfl | rfl | rfl | rfl <;> rfl) (Nat.le_of_ble_eq_true rfl) (Nat.le_of_ble_eq_true rfl) dX2_init_16 (fun t H hP hD hS => ?_)
  have hP : va_P D vwCl ([(x, .inr (2, [.ref r, .null, .null, .int 0]))] ++ row0 r la bs cA ++ [(t, .inr (1, [.null, .int 0, .int 0, .int 0, .double 0]))]) H := hP
  have hD : va_D A ([(x, .inr (2, [.ref r, .null, .null, .int 0]))] ++ row0 r la bs cA ++ [(t, .inr (1, [.null, .int 0, .int 0, .int 0, .double 0]))]) := hD
  refine lv_dup hx hb dX2_init_19 rfl ?_
  have hP : va_P D vwCl (([(x, .inr (2, [.ref r, .null, .null, .int 0]))] ++ row0 r la bs cA) ++ ([(t, .inr (1, [.null, .int 0, .int 0, .int 0, .double 0]))] ++ [])) H := hP
  have hD : va_D A (([(x, .inr (2, [.ref r, .null, .null, .int 0]))] ++ row0 r la bs cA) ++ ([(t, .inr (1, [.null, .int 0, .int 0, .int 0, .double 0]))] ++ [])) := hD
  refine kI_v (S := Nat × (Nat → Nat) × ClassId) (w2' := fun u => row0 t u.1 u.2.1 u.2.2) (tk := fun u => [(u.2.2, .object "VinegarLoft$Barrel")]) (w1 := [(x, .inr (2, [.ref r, .null, .null, .int 0]))] ++ row0 r la bs cA) (w2 := [(t, .inr (1, [.null, .int 0, .int 0, .int 0, .double 0]))]) (w3 := []) (va_runI (As := []) (rest := [.ref t, .ref x]) ⟨hx, hb, hml, hown, hts⟩ (metX1_init l D H.size t) (cwI 0 hts gX2_init_X1_init rfl rfl rfl (hts (.initialized RX1) (by decide +kernel)) (hts (.methodLink RX2 9 yX1_init) (by decide +kernel)) (hts (.instanceMethod yX1_init) (by decide +kernel)) rfl (by decide +kernel) ⟨Nat.le_of_ble_eq_true rfl, Nat.le_of_ble_eq_true rfl⟩) (piS (vj_mP hP) (hK.sub [] rfl) (vj_mD hD) hO hNw) rfl rfl hl.1 rfl (lv_room (Nat.le_of_ble_eq_true rfl)) dX2_init_20 ⟨Nat.le_of_ble_eq_true rfl, Nat.le_of_ble_eq_true rfl⟩) hP hD hS hA (fun u9 H locs hK1 hP hD hS => ?_)
  obtain ⟨lt, bt, cB⟩ := u9
  obtain rfl := va_K_cA hKA hK1
  have hK : va_K D vwCl [(cA, .object "VinegarLoft$Barrel")] s := hKA
  have hP : va_P D vwCl ([(x, .inr (2, [.ref r, .null, .null, .int 0]))] ++ row0 r la bs cA ++ row0 t lt bt cA) H := hP
  have hD : va_D A ([(x, .inr (2, [.ref r, .null, .null, .int 0]))] ++ row0 r la bs cA ++ row0 t lt bt cA) := hD
  refine va_putF (D := D) (ci := 2) (v := .ref t) (ty := .object "VinegarLoft$Row") (C := RX2) (T := TX2) (N := 4) hx hb hts (by decide +kernel) tyX2 tyX2_ok nmX2 hown hK hP hD hS (0) rfl rfl 1 (by decide) (hts (.fieldLink RX2 16 "VinegarLoft" "trial" "LVinegarLoft$Row;") (by decide +kernel)) (fun _ h9 => h9) rfl hin rfl (by decide +kernel) rfl rfl (Nat.le_of_ble_eq_true rfl) dX2_init_23 (fun H locs hP hD hS => ?_)
  have hP : va_P D vwCl ([(x, .inr (2, [.ref r, .ref t, .null, .int 0]))] ++ row0 r la bs cA ++ row0 t lt bt cA) H := hP
  have hD : va_D A ([(x, .inr (2, [.ref r, .ref t, .null, .int 0]))] ++ row0 r la bs cA ++ row0 t lt bt cA) := hD
  refine lv_aload_n hx hb dX2_init_26 rfl (lv_at hl 0 rfl) ?_
  refine lv_iconst (v := 3) hx hb dX2_init_27 (by decide) ?_
  refine va_newa (atype := .int) (ty := .int) (n := 3) (N' := 3) (a0 := (3, .inl (fun _ => 0))) hx hb (hts (.arrayClass .int) (by decide +kernel)) rfl hK hP hD hS hA (fun _ => rfl) (by decide) (by decide) (by decide) (Nat.le_of_ble_eq_true rfl) (Nat.le_of_ble_eq_true rfl) dX2_init_28 (fun d cI H hK hP hD hS => ?_)
  have hK : va_K D vwCl [(cA, .object "VinegarLoft$Barrel"), (cI, .int)] s := hK
  have hP : va_P D vwCl ([(x, .inr (2, [.ref r, .ref t, .null, .int 0]))] ++ row0 r la bs cA ++ row0 t lt bt cA ++ [(d, ED cI (fun _ => 0))]) H := hP
  have hD : va_D A ([(x, .inr (2, [.ref r, .ref t, .null, .int 0]))] ++ row0 r la bs cA ++ row0 t lt bt cA ++ [(d, ED cI (fun _ => 0))]) := hD
  refine va_putF (D := D) (ci := 2) (v := .ref d) (ty := .array (.int)) (C := RX2) (T := TX2) (N := 4) hx hb hts (by decide +kernel) tyX2 tyX2_ok nmX2 hown hK hP hD hS (0) rfl rfl 2 (by decide) (hts (.fieldLink RX2 19 "VinegarLoft" "drawnByKind" "[I") (by decide +kernel)) (fun _ h9 => h9) rfl hin rfl (by decide +kernel) rfl rfl (Nat.le_of_ble_eq_true rfl) dX2_init_30 (fun H locs hP hD hS => ?_)
  have hP : va_P D vwCl ([(x, .inr (2, [.ref r, .ref t, .ref d, .int 0]))] ++ row0 r la bs cA ++ row0 t lt bt cA ++ [(d, ED cI (fun _ => 0))]) H := hP
  have hD : va_D A ([(x, .inr (2, [.ref r, .ref t, .ref d, .int 0]))] ++ row0 r la bs cA ++ row0 t lt bt cA ++ [(d, ED cI (fun _ => 0))]) := hD
  refine lv_aload_n hx hb dX2_init_33 rfl (lv_at hl 0 rfl) ?_
  refine lv_iconst (v := 0) hx hb dX2_init_34 (by decide) ?_
  refine va_put (D := D) (ci := 2) (v := .int 0) (ty := .int) (C := RX2) (T := TX2) (N := 4) hx hb hts (by decide +kernel) tyX2 tyX2_ok nmX2 hown hK hP hD hS (0) rfl rfl 3 (by decide) (hts (.fieldLink RX2 23 "VinegarLoft" "yearsGone" "I") (by decide +kernel)) (fun _ h9 => h9) rfl (by decide +kernel) rfl rfl (Nat.le_of_ble_eq_true rfl) dX2_init_35 (fun H locs hP hD hS => ?_)
  have hP : va_P D vwCl ([(x, .inr (2, [.ref r, .ref t, .ref d, .int 0]))] ++ row0 r la bs cA ++ row0 t lt bt cA ++ [(d, ED cI (fun _ => 0))]) H := hP
  have hD : va_D A ([(x, .inr (2, [.ref r, .ref t, .ref d, .int 0]))] ++ row0 r la bs cA ++ row0 t lt bt cA ++ [(d, ED cI (fun _ => 0))]) := hD
  have hP9 : va_P D vwCl (loftU x (r, t, d, la, lt, bs, bt, cA, cI)) H := hP
  have hD9 : va_D A (loftU x (r, t, d, la, lt, bs, bt, cA, cI)) := hD
  refine W.widen (k := 21) (n := 125) (Nat.le_of_ble_eq_true rfl) (Nat.le_of_ble_eq_true rfl) ?_
  exact W.vret hx hb hr (fun t9 ht9 hW => ⟨⟨(r, t, d, la, lt, bs, bt, cA, cI), rfl, trivial, by rw [ht9]; exact hP9, va_K.moved hW.alike hK, hD9⟩, hS.F ht9⟩) hS.2.2 dX2_init_38
end
