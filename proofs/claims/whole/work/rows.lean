section
-- ===== PART A: goes FIRST, ahead of the names: the tables' words, and 'selects' of the private methods out of them =====
/-- a private method of a class that the tables say can be made, by its rows of tables_1 -/
def lw_okq (q : MethodName × Nat) : Prop := (q.1.cls ≠ "java/lang/invoke/MethodHandle" ∧ q.1.cls ≠ "java/lang/invoke/VarHandle") ∧ Cond.instantiable q.1.cls q.2 ∈ tables_1 ∧ Cond.privateMethod q.1 ∈ tables_1 ∧ Cond.instanceMethod q.1 ∈ tables_1
theorem lw_p0 : lw_okq (⟨"VinegarLoft$Row", "draughtNow", "()D"⟩, 5) := ⟨⟨by decide +kernel, by decide +kernel⟩, List.mem_of_getElem? (i := 20) (by decide +kernel), List.mem_of_getElem? (i := 131) (by decide +kernel), List.mem_of_getElem? (i := 132) (by decide +kernel)⟩
theorem lw_p1 : lw_okq (⟨"VinegarLoft$Barrel", "sour", "()V"⟩, 6) := ⟨⟨by decide +kernel, by decide +kernel⟩, List.mem_of_getElem? (i := 27) (by decide +kernel), List.mem_of_getElem? (i := 155) (by decide +kernel), List.mem_of_getElem? (i := 156) (by decide +kernel)⟩
theorem lw_p2 : lw_okq (⟨"java/lang/Throwable", "fillInStackTrace", "(I)Ljava/lang/Throwable;"⟩, 6) := ⟨⟨by decide +kernel, by decide +kernel⟩, List.mem_of_getElem? (i := 278) (by decide +kernel), List.mem_of_getElem? (i := 276) (by decide +kernel), List.mem_of_getElem? (i := 277) (by decide +kernel)⟩
theorem lw_p3 : lw_okq (⟨"VinegarLoft", "barrelNumbered", "(I)LVinegarLoft$Barrel;"⟩, 4) := ⟨⟨by decide +kernel, by decide +kernel⟩, List.mem_of_getElem? (i := 12) (by decide +kernel), List.mem_of_getElem? (i := 376) (by decide +kernel), List.mem_of_getElem? (i := 377) (by decide +kernel)⟩
theorem lw_p4 : lw_okq (⟨"VinegarLoftModel", "room", "()D"⟩, 13) := ⟨⟨by decide +kernel, by decide +kernel⟩, List.mem_of_getElem? (i := 455) (by decide +kernel), List.mem_of_getElem? (i := 514) (by decide +kernel), List.mem_of_getElem? (i := 515) (by decide +kernel)⟩
theorem lw_p5 : lw_okq (⟨"VinegarLoftModel", "pours", "(D)D"⟩, 13) := ⟨⟨by decide +kernel, by decide +kernel⟩, List.mem_of_getElem? (i := 455) (by decide +kernel), List.mem_of_getElem? (i := 521) (by decide +kernel), List.mem_of_getElem? (i := 522) (by decide +kernel)⟩
theorem lw_p6 : lw_okq (⟨"VinegarLoftModel", "gets", "(IDDDD)V"⟩, 13) := ⟨⟨by decide +kernel, by decide +kernel⟩, List.mem_of_getElem? (i := 455) (by decide +kernel), List.mem_of_getElem? (i := 526) (by decide +kernel), List.mem_of_getElem? (i := 527) (by decide +kernel)⟩
theorem lw_p7 : lw_okq (⟨"VinegarLoftModel", "mixes", "(IIDD)V"⟩, 13) := ⟨⟨by decide +kernel, by decide +kernel⟩, List.mem_of_getElem? (i := 455) (by decide +kernel), List.mem_of_getElem? (i := 530) (by decide +kernel), List.mem_of_getElem? (i := 531) (by decide +kernel)⟩
theorem lw_p8 : lw_okq (⟨"VinegarLoftModel", "topsUp", "()D"⟩, 13) := ⟨⟨by decide +kernel, by decide +kernel⟩, List.mem_of_getElem? (i := 455) (by decide +kernel), List.mem_of_getElem? (i := 538) (by decide +kernel), List.mem_of_getElem? (i := 539) (by decide +kernel)⟩
theorem lw_p9 : lw_okq (⟨"VinegarLoftModel", "passes", "()D"⟩, 13) := ⟨⟨by decide +kernel, by decide +kernel⟩, List.mem_of_getElem? (i := 455) (by decide +kernel), List.mem_of_getElem? (i := 548) (by decide +kernel), List.mem_of_getElem? (i := 549) (by decide +kernel)⟩
theorem lw_p10 : lw_okq (⟨"VinegarLoftModel", "isEmpty", "(I)Z"⟩, 13) := ⟨⟨by decide +kernel, by decide +kernel⟩, List.mem_of_getElem? (i := 455) (by decide +kernel), List.mem_of_getElem? (i := 552) (by decide +kernel), List.mem_of_getElem? (i := 553) (by decide +kernel)⟩
theorem lw_p11 : lw_okq (⟨"VinegarLoftModel", "ages", "(I)D"⟩, 13) := ⟨⟨by decide +kernel, by decide +kernel⟩, List.mem_of_getElem? (i := 455) (by decide +kernel), List.mem_of_getElem? (i := 556) (by decide +kernel), List.mem_of_getElem? (i := 557) (by decide +kernel)⟩
theorem lw_p12 : lw_okq (⟨"VinegarLoftModel", "draught", "()D"⟩, 13) := ⟨⟨by decide +kernel, by decide +kernel⟩, List.mem_of_getElem? (i := 455) (by decide +kernel), List.mem_of_getElem? (i := 567) (by decide +kernel), List.mem_of_getElem? (i := 568) (by decide +kernel)⟩
theorem lw_p13 : lw_okq (⟨"VinegarLoftModel", "oldestNow", "()I"⟩, 13) := ⟨⟨by decide +kernel, by decide +kernel⟩, List.mem_of_getElem? (i := 455) (by decide +kernel), List.mem_of_getElem? (i := 580) (by decide +kernel), List.mem_of_getElem? (i := 581) (by decide +kernel)⟩
theorem lw_p14 : lw_okq (⟨"VinegarLoftModel", "bottlesNow", "()I"⟩, 13) := ⟨⟨by decide +kernel, by decide +kernel⟩, List.mem_of_getElem? (i := 455) (by decide +kernel), List.mem_of_getElem? (i := 589) (by decide +kernel), List.mem_of_getElem? (i := 590) (by decide +kernel)⟩
theorem lw_p15 : lw_okq (⟨"VinegarLoftModel", "empties", "(I)V"⟩, 13) := ⟨⟨by decide +kernel, by decide +kernel⟩, List.mem_of_getElem? (i := 455) (by decide +kernel), List.mem_of_getElem? (i := 595) (by decide +kernel), List.mem_of_getElem? (i := 596) (by decide +kernel)⟩
def lw_privs_1 : List (MethodName × Nat) := [(⟨"VinegarLoft$Row", "draughtNow", "()D"⟩, 5), (⟨"VinegarLoft$Barrel", "sour", "()V"⟩, 6), (⟨"java/lang/Throwable", "fillInStackTrace", "(I)Ljava/lang/Throwable;"⟩, 6), (⟨"VinegarLoft", "barrelNumbered", "(I)LVinegarLoft$Barrel;"⟩, 4), (⟨"VinegarLoftModel", "room", "()D"⟩, 13), (⟨"VinegarLoftModel", "pours", "(D)D"⟩, 13), (⟨"VinegarLoftModel", "gets", "(IDDDD)V"⟩, 13), (⟨"VinegarLoftModel", "mixes", "(IIDD)V"⟩, 13), (⟨"VinegarLoftModel", "topsUp", "()D"⟩, 13), (⟨"VinegarLoftModel", "passes", "()D"⟩, 13), (⟨"VinegarLoftModel", "isEmpty", "(I)Z"⟩, 13), (⟨"VinegarLoftModel", "ages", "(I)D"⟩, 13), (⟨"VinegarLoftModel", "draught", "()D"⟩, 13), (⟨"VinegarLoftModel", "oldestNow", "()I"⟩, 13), (⟨"VinegarLoftModel", "bottlesNow", "()I"⟩, 13), (⟨"VinegarLoftModel", "empties", "(I)V"⟩, 13)]
theorem lw_r1 : ∀ q ∈ lw_privs_1, lw_okq q := List.forall_mem_cons.mpr ⟨lw_p0, List.forall_mem_cons.mpr ⟨lw_p1, List.forall_mem_cons.mpr ⟨lw_p2, List.forall_mem_cons.mpr ⟨lw_p3, List.forall_mem_cons.mpr ⟨lw_p4, List.forall_mem_cons.mpr ⟨lw_p5, List.forall_mem_cons.mpr ⟨lw_p6, List.forall_mem_cons.mpr ⟨lw_p7, List.forall_mem_cons.mpr ⟨lw_p8, List.forall_mem_cons.mpr ⟨lw_p9, List.forall_mem_cons.mpr ⟨lw_p10, List.forall_mem_cons.mpr ⟨lw_p11, List.forall_mem_cons.mpr ⟨lw_p12, List.forall_mem_cons.mpr ⟨lw_p13, List.forall_mem_cons.mpr ⟨lw_p14, List.forall_mem_cons.mpr ⟨lw_p15, fun _ h => absurd h List.not_mem_nil⟩⟩⟩⟩⟩⟩⟩⟩⟩⟩⟩⟩⟩⟩⟩⟩
theorem lw_p16 : lw_okq (⟨"VinegarLoftModel", "isThere", "(I)Z"⟩, 13) := ⟨⟨by decide +kernel, by decide +kernel⟩, List.mem_of_getElem? (i := 455) (by decide +kernel), List.mem_of_getElem? (i := 603) (by decide +kernel), List.mem_of_getElem? (i := 604) (by decide +kernel)⟩
theorem lw_p17 : lw_okq (⟨"VinegarLoftModel", "of", "(II)D"⟩, 13) := ⟨⟨by decide +kernel, by decide +kernel⟩, List.mem_of_getElem? (i := 455) (by decide +kernel), List.mem_of_getElem? (i := 619) (by decide +kernel), List.mem_of_getElem? (i := 620) (by decide +kernel)⟩
theorem lw_p18 : lw_okq (⟨"VinegarLoftModel", "mean", "(I)D"⟩, 13) := ⟨⟨by decide +kernel, by decide +kernel⟩, List.mem_of_getElem? (i := 455) (by decide +kernel), List.mem_of_getElem? (i := 661) (by decide +kernel), List.mem_of_getElem? (i := 662) (by decide +kernel)⟩
def lw_privs_2 : List (MethodName × Nat) := [(⟨"VinegarLoftModel", "isThere", "(I)Z"⟩, 13), (⟨"VinegarLoftModel", "of", "(II)D"⟩, 13), (⟨"VinegarLoftModel", "mean", "(I)D"⟩, 13)]
theorem lw_r2 : ∀ q ∈ lw_privs_2, lw_okq q := List.forall_mem_cons.mpr ⟨lw_p16, List.forall_mem_cons.mpr ⟨lw_p17, List.forall_mem_cons.mpr ⟨lw_p18, fun _ h => absurd h List.not_mem_nil⟩⟩⟩
def lw_privs : List (MethodName × Nat) := lw_privs_1 ++ (lw_privs_2)
def lw_tbl : List Cond := k2_sels lw_privs ++ tables_1
theorem lw_privs_ok : ∀ q ∈ lw_privs, lw_okq q := by
  show ∀ q ∈ lw_privs_1 ++ (lw_privs_2), lw_okq q
  exact List.forall_mem_append.mpr ⟨lw_r1, lw_r2⟩
/-- the streams that the claim lets the run draw from -/
abbrev lw_cs : List Choice := [Jvm.Choice.named "NaN.bits"]
theorem lw_bits : nanBits ∈ lw_cs := by first | decide | exact List.mem_cons_self | simp [lw_cs, nanBits]
-- ===== end of PART A; then your names; then what follows =====
end
section
/-! ===== BEGIN words of one list among another's, by their places ===== -/
theorem goodIn_r {big : List Cond} (ws : List Cond) (ps : List Nat) (hp : ws = ps.filterMap (fun i => big[i]?)) (h : ws.all goodWord = true) : GoodIn big ws := by
  intro w hw
  have h1 := List.all_eq_true.mp h w hw
  rw [hp] at hw
  obtain ⟨i, -, hi⟩ := List.mem_filterMap.mp hw
  have hm : w ∈ big := by first | exact List.mem_of_getElem? hi | exact List.getElem?_mem hi
  exact ⟨hm, good_of_word h1⟩
theorem goodIn_app {big a b : List Cond} (ha : GoodIn big a) (hb : GoodIn big b) : GoodIn big (a ++ b) := fun w h => (List.mem_append.mp h).elim (ha w) (hb w)
theorem goodIn_ca {big a b : List Cond} {c : Cond} (ha : GoodIn big (c :: a)) (hb : GoodIn big b) : GoodIn big (c :: (a ++ b)) := fun w h => (List.mem_cons.mp h).elim (fun e => ha w (List.mem_cons.mpr (Or.inl e))) (fun h => (List.mem_append.mp h).elim (fun h => ha w (List.mem_cons.mpr (Or.inr h))) (hb w))
theorem goodIn_sub {big ws : List Cond} (hm : ∀ w ∈ ws, w ∈ big) (h : ws.all goodWord = true) : GoodIn big ws := fun w hw => ⟨hm w hw, good_of_word (List.all_eq_true.mp h w hw)⟩
/-! ===== END ===== -/

/-! ===== BEGIN exceptions that leave a method, and their catching by the caller (launches without stack traces) ===== -/
section VXA
/-! The laws vx_back, vx_callV, vx_callS, vx_callSW, vx_throw0, vx_throwS follow proofs of the library, with one case more: JvmDerived/Free/Laws.lean (Back.of_free), Shelf42/LK1.lean (callV, callS), Shelf/KitTraced.lean (throwNew0V, throwNewS). -/
/-- where a method has thrown q: the class by its name, the cell, what was written, the world -/
def vx_T (XC : String → State → State → Prop) (st : State) (q : Addr) (t : State) (mc ms : Nat) (free : Addr → Prop) : Prop :=
  ∃ (E : String) (ce : Cell) (L : List Loc), XC E st t ∧ t.heap[q]? = some ce ∧ ce.vm = .none ∧ st.vm.findClass E = some ce.cls ∧ st.WarmedH t.vm ∧ st.sameButNew ({ t with vm := st.vm } : State) L mc ms ∧ ∀ z ∈ L, free z.base
def vx_Q (Qc : Array Value → State → Outcome → State → Prop) (XC : String → State → State → Prop) (mc ms : Nat) (free : Addr → Prop) : Array Value → State → Outcome → State → Prop := fun a st o t =>
  (Qc a st o t ∧ ∃ L, FrameEnd st o t L mc ms ∧ ∀ q ∈ L, free q.base) ∨ ∃ q, o = .threw q ∧ vx_T XC st q t mc ms free
/-- a callee that returns or throws -/
def vx_Met (l : Launch) (y : MethodName) (ws : List Cond) (rm : Room) (Pc : Array Value → State → Prop) (Qc : Array Value → State → Outcome → State → Prop) (XC : String → State → State → Prop) (mc ms : Nat) (free : Addr → Prop) : Prop :=
  MetFree l y (headSpec ws rm) Pc (fun _ _ _ _ _ => True) (vx_Q Qc XC mc ms free)
def vx_Post (XC : String → State → State → Prop) (mc ms : Nat) (free : Addr → Prop) : Pt → Array Value → Addr → Pt → Prop := fun A a q B =>
  ∃ (g : JFrame) (mk : MethodId) (t : State) (L : List Loc) (E : String) (ce : Cell), B.U.heap = t.heap ∧ B.U.vm = t.vm ∧ XC E (A.U.calling g mk a) t ∧ t.heap[q]? = some ce ∧ ce.vm = .none ∧ A.U.vm.findClass E = some ce.cls ∧ B.locs = A.locs ++ L ∧ (∀ z ∈ L, free z.base) ∧ B.cells = A.cells + mc ∧ B.slots = A.slots + ms
def vx_Back (l : Launch) (R : Room) (p : Program) (e : Env) (below : List Frame) (s : State) (sargs : Array Value) (y : MethodName) (len W9 : Nat)
    (Pre : Pt → Array Value → Prop) (Post : Pt → Array Value → Option Value → Pt → Prop) (PostX : Pt → Array Value → Addr → Pt → Prop) : Prop :=
  ∀ (m : MethodId) (meth : Method) (c : Code) (A : Pt) (g : JFrame) (ig : Instr) (mk : MethodId) (a : Array Value),
    Stand p l e R s m sargs below meth c A.U A.locs A.cells A.slots → g.method = m → g.locals.size = c.maxLocals → decode c.code g.pc = .ok (ig, len) →
    2 * g.monitorRoom + (g.stack.map fun v => v.category).sum ≤ W9 → A.U.methodNamed? y = some mk → Pre A a →
    (∃ (v : Option Value) (B : Pt), Stand p l e R s m sargs below meth c B.U B.locs B.cells B.slots ∧ Post A a v B ∧
      Steps p.tables e below (doInvoke e (A.U.setTop g) [] mk a).1 (B.U.setTop { g with pc := g.pc + len, stack := v.toList ++ g.stack })) ∨
    (∃ (q : Addr) (B : Pt), Stand p l e R s m sargs below meth c B.U B.locs B.cells B.slots ∧ PostX A a q B ∧
      Steps p.tables e below (doInvoke e (A.U.setTop g) [] mk a).1 ((B.U.setTop g).pushFrame (.throwing q)))
section Payer
variable {l : Launch} {R : Room} {p : Program} {e : Env} {below : List Frame} {s : State} {sargs : Array Value} {y : MethodName} {len W9 : Nat}
theorem vx_back {ws : List Cond} {rm : Room} {Pc : Array Value → State → Prop} {Qc : Array Value → State → Outcome → State → Prop} {XC : String → State → State → Prop} {mc ms : Nat} {free : Addr → Prop} {bytes : ByteArray} {maxL : Nat} {ret : Option FieldType}
    (hM : vx_Met l y ws rm Pc Qc XC mc ms free) (hblind : FrameBlind Pc) (hrc : rm.cells = mc) (hrs : rm.slots = ms)
    (hframes : rm.frames + 1 ≤ R.frames) (hlocals : W9 + (maxL + 11) + rm.locals ≤ R.locals)
    (hws : ∀ w ∈ ws, ∀ a' U, s.WarmedH U.vm → w.before a' U = true) (hcode : Cond.code y bytes maxL ret ∈ ws) (hinit : ∀ a' U, s.WarmedH U.vm → (Cond.initialized y.cls).before a' U = true) :
    vx_Back l R p e below s sargs y len W9 (PreOf R mc ms Pc) (PostOf Qc mc ms free) (vx_Post XC mc ms free) := by
  intro m meth c A g ig mk a X hg hsize hdg hW hn hp
  have h1 : (headSpec ws rm).pre.before a A.U = true := atoms_intro fun w hw => hws w hw _ _ X.warmed
  have h2 : (Cond.code y bytes maxL ret).before a A.U = true := hws _ hcode _ _ X.warmed
  have h3 : (Cond.initialized y.cls).before a A.U = true := hinit _ _ X.warmed
  have h4 : A.cells + (headSpec ws rm).room.cells ≤ R.cells := by rw [show (headSpec ws rm).room.cells = mc from hrc]; exact hp.1
  have h5 : A.slots + (headSpec ws rm).room.slots ≤ R.slots := by rw [show (headSpec ws rm).room.slots = ms from hrs]; exact hp.2.1
  have hPc : Pc a (A.U.calling g mk a) := hblind _ _ _ _ hp.2.2
  obtain ⟨U, Ls, c0, s0⟩ := A
  dsimp only [Pt.U, Pt.locs, Pt.cells, Pt.slots] at h1 h2 h3 h4 h5 X hn hPc ⊢
  obtain ⟨methY, cY, hmY, hcY, -, hlY, -, -, -, -⟩ := Cond.code_spec hn h2
  obtain ⟨kY, hkY, -⟩ := className_of_methodNamed hn
  have hinitY : kY.init = .initialized := Cond.initialized_spec (findClass_of_methodNamed hn) hkY h3
  have h : At U g.method c below := by rw [hg]; exact X.here
  have hlocals9 : W9 + (maxL + 11) + (headSpec ws rm).room.locals ≤ R.locals := hlocals
  have happ : (headSpec ws rm).appliesLoose y e.platform (U.calling g mk a) = true :=
    Spec.appliesLoose_calling (g := g) h hdg hn hkY hinitY
      (X.room_calling (g := g) (R' := (headSpec ws rm).room) hsize hmY hcY hframes (by rw [hlY]; omega) h4 h5) h1
  obtain ⟨mid, hmid⟩ := h.above
  have hfr : (U.setTop g).frames = (.java g :: mid) ++ below := by rw [State.frames_setTop' g h.top, hmid]; rfl
  obtain ⟨o, s₂, hsteps, -, hend, hq⟩ := Steps.callFree hM p X.admits X.cas X.clock (acts := []) hfr happ hPc trivial
  have hq' : vx_Q Qc XC mc ms free a (U.calling g mk a) o s₂ := hq
  rw [State.frames_setTop' g h.top] at hend
  obtain ⟨g₀, hg0⟩ := Option.isSome_iff_exists.mp h.top
  obtain ⟨r, hr⟩ := State.topJava?_eq_some.mp hg0
  have hr' : (({ U with heap := s₂.heap, slotsUsed := s₂.slotsUsed } : State).setVm s₂.vm).frames = .java g₀ :: r := hr
  rcases hq' with ⟨hqc, L, hfe, hL⟩ | ⟨q, rfl, E, ce, L, hx, hce, hcv, hcl, hW₂, hsm, hL⟩
  · obtain ⟨⟨v, rfl⟩, hW₂, e2, q2, q3, q4, q5, q6⟩ := id hfe
    have e3 : s₂ = ({ (U.calling g mk a).setFrames s₂.frames with heap := s₂.heap, slotsUsed := s₂.slotsUsed } : State).setVm s₂.vm := by
      have : s₂ = ({ s₂ with vm := (U.calling g mk a).vm } : State).setVm s₂.vm := rfl
      rw [e2] at this
      exact this
    obtain ⟨c₂, i₂, len₂, hc₂, hd₂, hf₂⟩ := hend
    have hW' : U.WarmedH s₂.vm := hW₂
    have hcc : c₂ = c := by
      have h1 : s₂.code? g.method = U.code? g.method := by
        rw [State.code?_eq, State.code?_eq, hW'.alike.method?]
      exact Option.some.inj (hc₂.symm.trans (h1.trans h.code))
    subst hcc
    have hlen : len₂ = len := by rw [hdg] at hd₂; cases hd₂; rfl
    subst hlen
    have hs₂ : s₂ = (({ U with heap := s₂.heap, slotsUsed := s₂.slotsUsed } : State).setVm s₂.vm).setTop { g with pc := g.pc + len₂, stack := v.toList ++ g.stack } := by
      refine e3.trans ?_
      rw [hf₂, State.calling_eq h.top, State.setFrames_setFrames, State.setTop_of_frames _ hr', hr]
      rfl
    have hsame : U.sameButNew ({ U with heap := s₂.heap, slotsUsed := s₂.slotsUsed } : State) L mc ms := by
      refine ⟨?_, q2, q3, q4, q5, q6⟩
      obtain ⟨t, ht, -⟩ := State.frames_cons hr
      show ({ U with heap := s₂.heap, slotsUsed := s₂.slotsUsed } : State) = { U.setFrames U.frames with heap := s₂.heap, slotsUsed := s₂.slotsUsed }
      rw [State.setFrames_self ht]
    subst hg
    refine Or.inl ⟨v, ⟨(({ U with heap := s₂.heap, slotsUsed := s₂.slotsUsed } : State).setVm s₂.vm), Ls ++ L, c0 + mc, s0 + ms⟩,
      ⟨X.admits, X.cas, X.clock, X.frames, X.room, X.hears, X.method, X.code, (X.here.setHeapUsed s₂.heap s₂.slotsUsed).setVm hW'.alike, X.tail, State.WarmedH.trans X.warmed hW', X.limits, X.bytes, X.same.trans (hsame.setVm s.vm)⟩,
      ⟨g, mk, s₂, L, rfl, rfl, hqc, rfl, hL, rfl, rfl⟩, ?_⟩
    show Steps p.tables e below _ ((({ U with heap := s₂.heap, slotsUsed := s₂.slotsUsed } : State).setVm s₂.vm).setTop { g with pc := g.pc + len₂, stack := v.toList ++ g.stack })
    rw [← hs₂]
    exact hsteps
  · obtain ⟨e2, q2, q3, q4, q5, q6⟩ := id hsm
    have e3 : s₂ = ({ (U.calling g mk a).setFrames s₂.frames with heap := s₂.heap, slotsUsed := s₂.slotsUsed } : State).setVm s₂.vm := by
      have : s₂ = ({ s₂ with vm := (U.calling g mk a).vm } : State).setVm s₂.vm := rfl
      rw [e2] at this
      exact this
    have hf₂ : s₂.frames = .throwing q :: .java g :: U.frames.tail := hend
    have hW' : U.WarmedH s₂.vm := hW₂
    have hs₂ : s₂ = ((({ U with heap := s₂.heap, slotsUsed := s₂.slotsUsed } : State).setVm s₂.vm).setTop g).pushFrame (.throwing q) := by
      refine e3.trans ?_
      rw [hf₂, State.calling_eq h.top, State.setFrames_setFrames, State.pushFrame, State.frames_setTop _ hr', State.setTop_of_frames _ hr', State.setFrames_setFrames, hr]
      rfl
    have hsame : U.sameButNew ({ U with heap := s₂.heap, slotsUsed := s₂.slotsUsed } : State) L mc ms := by
      refine ⟨?_, q2, q3, q4, q5, q6⟩
      obtain ⟨t, ht, -⟩ := State.frames_cons hr
      show ({ U with heap := s₂.heap, slotsUsed := s₂.slotsUsed } : State) = { U.setFrames U.frames with heap := s₂.heap, slotsUsed := s₂.slotsUsed }
      rw [State.setFrames_self ht]
    subst hg
    refine Or.inr ⟨q, ⟨(({ U with heap := s₂.heap, slotsUsed := s₂.slotsUsed } : State).setVm s₂.vm), Ls ++ L, c0 + mc, s0 + ms⟩,
      ⟨X.admits, X.cas, X.clock, X.frames, X.room, X.hears, X.method, X.code, (X.here.setHeapUsed s₂.heap s₂.slotsUsed).setVm hW'.alike, X.tail, State.WarmedH.trans X.warmed hW', X.limits, X.bytes, X.same.trans (hsame.setVm s.vm)⟩,
      ⟨g, mk, s₂, L, E, ce, rfl, rfl, hx, hce, hcv, hcl, rfl, hL, rfl, rfl⟩, ?_⟩
    show Steps p.tables e below _ (((({ U with heap := s₂.heap, slotsUsed := s₂.slotsUsed } : State).setVm s₂.vm).setTop g).pushFrame (.throwing q))
    rw [← hs₂]
    exact hsteps
end Payer
section Calls
variable {p : Program} {l : Launch} {e : Env} {R : Room} {s : State} {m : MethodId} {args : Array Value} {below : List Frame} {meth : Method} {c : Code} {T : State} {locs : List Loc} {cells slots : Nat}
theorem vx_callV (X : Stand p l e R s m args below meth c T locs cells slots) (hexec : p.tables.exec = Jvm.exec) {own C : String} {index : Nat} {y : MethodName} {bytes : ByteArray} {maxL : Nat} {ret : Option FieldType}
    (hown : s.vm.findClass own = some m.cls) (hlink : (Cond.methodLink own index y).before args s = true) (hinst : (Cond.instanceMethod y).before args s = true) (hsel : (Cond.selects C y y).before args s = true)
    (hcode : (Cond.code y bytes maxL ret).before args s = true) (hy : y.cls ≠ "java/lang/invoke/MethodHandle" ∧ y.cls ≠ "java/lang/invoke/VarHandle")
    {W9 : Nat} {Pre : Pt → Array Value → Prop} {Post : Pt → Array Value → Option Value → Pt → Prop} {PostX : Pt → Array Value → Addr → Pt → Prop} (hK : vx_Back l R p e below s args y 3 W9 Pre Post PostX)
    {b : Addr} {cellB : Cell} (hcell : T.heap[b]? = some cellB) (hobj : cellB.vm.isStatics = false) (hcls : s.vm.findClass C = some cellB.cls)
    {g : JFrame} (hg : g.method = m) (hsize : g.locals.size = c.maxLocals) {argsL rest : List Value} (hlen : ∀ sig, parseMethodDescriptor y.desc = some sig → argsL.length = sig.parameters.length)
    (hstack : g.stack = argsL.reverse ++ .ref b :: rest) (hW : 2 * g.monitorRoom + (rest.map fun v => v.category).sum ≤ W9) (hdg : decode c.code g.pc = .ok (.invokevirtual index, 3))
    (hpre : ∀ vm₁, s.WarmedH vm₁ → Pre ⟨T.setVm vm₁, locs, cells, slots⟩ (Value.ref b :: argsL).toArray) :
    (∃ (v : Option Value) (vm₁ : Vm) (B : Pt), s.WarmedH vm₁ ∧ Stand p l e R s m args below meth c B.U B.locs B.cells B.slots ∧ Post ⟨T.setVm vm₁, locs, cells, slots⟩ (Value.ref b :: argsL).toArray v B ∧
      ∀ target, Steps p.tables e below (B.U.setTop { g with pc := g.pc + 3, stack := v.toList ++ rest }) target → Steps p.tables e below (T.setTop g) target) ∨
    (∃ (q : Addr) (vm₁ : Vm) (B : Pt), s.WarmedH vm₁ ∧ Stand p l e R s m args below meth c B.U B.locs B.cells B.slots ∧ PostX ⟨T.setVm vm₁, locs, cells, slots⟩ (Value.ref b :: argsL).toArray q B ∧
      Steps p.tables e below (T.setTop g) ((B.U.setTop { g with stack := rest }).pushFrame (.throwing q))) := by
  obtain ⟨mk, methM, hnamed, hmethM, hstM, habM⟩ := Cond.instanceMethod_spec hinst
  obtain ⟨methM', cM, hmethM', -, -, -, -, -, -, hsigM⟩ := Cond.code_spec hnamed hcode
  cases hmethM.symm.trans hmethM'
  obtain ⟨c2, r2, m2, q1, q2, q3, q4, kP, hkP, hkPi⟩ := Cond.selects_spec hsel
  cases hcls.symm.trans q1
  cases (State.methodFound?_of_named hnamed hy).symm.trans q2
  cases hnamed.symm.trans q3
  have hselP : selectMethod e.platform s.vm cellB.cls mk = .method mk := by rw [Launch.admits_selectMethod X.admits]; exact q4
  obtain ⟨vm₁, X₁, hstep₁⟩ := X.invokevirtual hexec hown hlink hnamed hmethM hstM hkP hkPi hy (a := b) (cell := cellB) hcell
    (fun z h => by rw [h] at hobj; cases hobj) hselP hmethM habM hkP hkPi (g := g) hg (argsL := argsL) (rest := rest) (hlen _ hsigM) hstack hdg
  rcases hK m meth c ⟨T.setVm vm₁, locs, cells, slots⟩ { g with stack := rest } (.invokevirtual index) mk (Value.ref b :: argsL).toArray X₁ hg hsize hdg hW (X₁.named hnamed) (hpre vm₁ X₁.warmed) with ⟨v, B, X', hpost, hsteps⟩ | ⟨q, B, X', hpost, hsteps⟩
  · exact Or.inl ⟨v, vm₁, B, X₁.warmed, X', hpost, fun target h => hstep₁ _ fun acts => by rw [doInvoke_state]; exact hsteps.trans h⟩
  · exact Or.inr ⟨q, vm₁, B, X₁.warmed, X', hpost, hstep₁ _ fun acts => by rw [doInvoke_state]; exact hsteps⟩
theorem vx_callS (X : Stand p l e R s m args below meth c T locs cells slots) (hexec : p.tables.exec = Jvm.exec) {own : String} {index : Nat} {y : MethodName} {bytes : ByteArray} {maxL : Nat} {ret : Option FieldType}
    (hown : s.vm.findClass own = some m.cls) (hlink : (Cond.methodLink own index y).before args s = true) (hstat : (Cond.static y).before args s = true) (hinit : (Cond.initialized y.cls).before args s = true)
    (hcode : (Cond.code y bytes maxL ret).before args s = true) (hy : y.cls ≠ "java/lang/invoke/MethodHandle" ∧ y.cls ≠ "java/lang/invoke/VarHandle")
    {W9 : Nat} {Pre : Pt → Array Value → Prop} {Post : Pt → Array Value → Option Value → Pt → Prop} {PostX : Pt → Array Value → Addr → Pt → Prop} (hK : vx_Back l R p e below s args y 3 W9 Pre Post PostX)
    {g : JFrame} (hg : g.method = m) (hsize : g.locals.size = c.maxLocals) {argsL rest : List Value} (hlen : ∀ sig, parseMethodDescriptor y.desc = some sig → argsL.length = sig.parameters.length)
    (hstack : g.stack = argsL.reverse ++ rest) (hW : 2 * g.monitorRoom + (rest.map fun v => v.category).sum ≤ W9) (hdg : decode c.code g.pc = .ok (.invokestatic index, 3))
    (hpre : ∀ vm₁, s.WarmedH vm₁ → Pre ⟨T.setVm vm₁, locs, cells, slots⟩ argsL.toArray) :
    (∃ (v : Option Value) (vm₁ : Vm) (B : Pt), s.WarmedH vm₁ ∧ Stand p l e R s m args below meth c B.U B.locs B.cells B.slots ∧ Post ⟨T.setVm vm₁, locs, cells, slots⟩ argsL.toArray v B ∧
      ∀ target, Steps p.tables e below (B.U.setTop { g with pc := g.pc + 3, stack := v.toList ++ rest }) target → Steps p.tables e below (T.setTop g) target) ∨
    (∃ (q : Addr) (vm₁ : Vm) (B : Pt), s.WarmedH vm₁ ∧ Stand p l e R s m args below meth c B.U B.locs B.cells B.slots ∧ PostX ⟨T.setVm vm₁, locs, cells, slots⟩ argsL.toArray q B ∧
      Steps p.tables e below (T.setTop g) ((B.U.setTop { g with stack := rest }).pushFrame (.throwing q))) := by
  obtain ⟨mk, hnamed⟩ := Cond.code_named hcode
  obtain ⟨methM, cM, hmethM, -, -, -, -, -, -, hsigM⟩ := Cond.code_spec hnamed hcode
  have hstatic : methM.isStatic = true := Cond.static_spec hnamed hmethM hstat
  obtain ⟨kP, hkP, -⟩ := className_of_methodNamed hnamed
  have hinitP : kP.init = .initialized := Cond.initialized_spec (findClass_of_methodNamed hnamed) hkP hinit
  obtain ⟨vm₁, X₁, hstep₁⟩ := X.invokestatic hexec hown hlink hnamed hmethM hstatic hkP hinitP hy (g := g) hg (argsL := argsL) (rest := rest) (hlen _ hsigM) hstack hdg
  rcases hK m meth c ⟨T.setVm vm₁, locs, cells, slots⟩ { g with stack := rest } (.invokestatic index) mk argsL.toArray X₁ hg hsize hdg hW (X₁.named hnamed) (hpre vm₁ X₁.warmed) with ⟨v, B, X', hpost, hsteps⟩ | ⟨q, B, X', hpost, hsteps⟩
  · exact Or.inl ⟨v, vm₁, B, X₁.warmed, X', hpost, fun target h => hstep₁ _ fun acts => by rw [doInvoke_state]; exact hsteps.trans h⟩
  · exact Or.inr ⟨q, vm₁, B, X₁.warmed, X', hpost, hstep₁ _ fun acts => by rw [doInvoke_state]; exact hsteps⟩
end Calls
theorem vx_cls {s : State} {T : State} {vm₁ : Vm} {E : String} {k : ClassId} (hW : s.WarmedH vm₁) (h : (T.setVm vm₁).vm.findClass E = some k) : s.vm.findClass E = some k := by
  have h1 : vm₁.findClass E = some k := h
  rw [hW.alike.findClass] at h1
  exact h1
/-- the method's frame g, with q thrown over it -/
def vx_W (p : Program) (l : Launch) (e : Env) (R : Room) (s : State) (m : MethodId) (args : Array Value) (below : List Frame) (meth : Method) (c : Code) (H : Heap) (locs : List Loc) (cells slots : Nat) (Q : State → Prop) (g : JFrame) (q : Addr) : Prop :=
  ∀ T : State, T.heap = H → Stand p l e R s m args below meth c T locs cells slots → ∃ t, Steps p.tables e below ((T.setTop g).pushFrame (.throwing q)) t ∧ Q t
def vx_Run (p : Program) (l : Launch) (e : Env) (R : Room) (s : State) (m : MethodId) (args : Array Value) (below : List Frame) (meth : Method) (c : Code) (H : Heap) (locs : List Loc) (cells slots mc ms : Nat) (g : JFrame) (rest : List Value) (Qa : State → Outcome → State → Prop) (XC : String → State → State → Prop) (free : Addr → Prop) : Prop :=
  ∀ T : State, T.heap = H → Stand p l e R s m args below meth c T locs cells slots →
    (∃ (v : Option Value) (st₀ t T' : State) (L : List Loc), st₀.heap = H ∧ Stand p l e R s m args below meth c T' (locs ++ L) (cells + mc) (slots + ms) ∧ (∀ q ∈ L, free q.base) ∧ T'.heap = t.heap ∧ T'.vm = t.vm ∧ Qa st₀ (.returned v) t ∧
      Goes p e below T g T' { g with pc := g.pc + 3, stack := v.toList ++ rest }) ∨
    (∃ (q : Addr) (st₀ t T' : State) (L : List Loc) (E : String) (ce : Cell), st₀.heap = H ∧ Stand p l e R s m args below meth c T' (locs ++ L) (cells + mc) (slots + ms) ∧ (∀ z ∈ L, free z.base) ∧ T'.heap = t.heap ∧ T'.vm = t.vm ∧ XC E st₀ t ∧ t.heap[q]? = some ce ∧ ce.vm = .none ∧ s.vm.findClass E = some ce.cls ∧
      Steps p.tables e below (T.setTop g) ((T'.setTop { g with stack := rest }).pushFrame (.throwing q)))
def vx_X {S : Type} (px : S → Prop) (B : String → S → State → Prop) (A : Nat → Prop) : String → State → State → Prop := fun E st t => ∃ u : S, px u ∧ B E u t ∧ va_F A st t
section Runs
variable {p : Program} {l : Launch} {e : Env} {R : Room} {s : State} {m : MethodId} {args : Array Value} {below : List Frame} {meth : Method} {c : Code} {H : Heap} {locs : List Loc} {cells slots : Nat}
variable {y : MethodName} {bytes cc : ByteArray} {maxL nL mc ms n index : Nat} {ret : Option FieldType} {ws : List Cond} {rm : Room} {Pc : Array Value → State → Prop} {Qc : Array Value → State → Outcome → State → Prop} {XC : String → State → State → Prop} {free : Addr → Prop} {Ts : List Cond} {own C : String} {b : Addr} {As rest : List Value} {g : JFrame}
theorem vx_callBack (cb : CallB R s args own index y bytes maxL ret ws rm mc ms n) (hM : vx_Met l y ws rm Pc Qc XC mc ms free) (hbl : FrameBlind Pc) : vx_Back l R p e below s args y 3 8 (PreOf R mc ms Pc) (PostOf Qc mc ms free) (vx_Post XC mc ms free) := by
  obtain ⟨hrc, hrs, hfr, hlo, hws, hcw, -, hini, -⟩ := cb
  exact vx_back (bytes := bytes) (maxL := maxL) (ret := ret) hM hbl hrc hrs hfr hlo hws hcw (fun a' U hW => word_at hW (Or.inl (by first | rfl | simp [Cond.onTables, Cond.keeps, Cond.steady])) hini)
theorem vx_runV (S : CallFix p m c cc nL s args Ts own) (hM : vx_Met l y ws rm Pc Qc XC mc ms free) (cw : CallW R s args own C index y bytes maxL ret ws rm mc ms n) (hp : PreV s H C b Pc As)
    (hg : g.method = m) (hn : As.length = n) (hsize : g.locals.size = nL) (hstack : g.stack = As.reverse ++ .ref b :: rest) (hW : 2 * g.monitorRoom + (rest.map fun v => v.category).sum ≤ 8) (hdg : decode cc g.pc = .ok (.invokevirtual index, 3)) (hf : cells + mc ≤ R.cells ∧ slots + ms ≤ R.slots) :
    vx_Run p l e R s m args below meth c H locs cells slots mc ms g rest (Qc (Value.ref b :: As).toArray) XC free := by
  have hK : vx_Back l R p e below s args y 3 8 (PreOf R mc ms Pc) (PostOf Qc mc ms free) (vx_Post XC mc ms free) := vx_callBack cw.1 hM hp.1
  obtain ⟨⟨-, -, -, -, -, -, hcode, -, hy, hlen, hl⟩, hin, hse⟩ := cw
  obtain ⟨hx, hb, hml, ho, -⟩ := S
  obtain ⟨-, ⟨cellB, hcB, hoB, hclB⟩, hPc⟩ := hp
  intro T hT X
  rcases vx_callV X hx (C := C) (bytes := bytes) (maxL := maxL) (ret := ret) ho hl hin hse hcode hy hK (by rw [hT]; exact hcB) hoB hclB hg (hsize.trans hml.symm) (argsL := As) (rest := rest) (fun sig h => hn.trans (hlen sig h)) hstack hW (by rw [hb]; exact hdg)
    (fun vm₁ hW₁ => ⟨hf.1, hf.2, hPc (T.setVm vm₁) hT hW₁⟩) with ⟨v, vm₁, ⟨U', l2, c2, s2⟩, hW₁, X', ⟨g', mk, t, L, e1, e2, hq, h1, hL, h2, h3⟩, st⟩ | ⟨q, vm₁, ⟨U', l2, c2, s2⟩, hW₁, X', ⟨g', mk, t, L, E, ce, e1, e2, hq, hce, hcv, hcl, h1, hL, h2, h3⟩, st⟩
  · dsimp only [Pt.U, Pt.locs, Pt.cells, Pt.slots] at X' e1 e2 h1 h2 h3 st
    subst h1; subst h2; subst h3
    exact Or.inl ⟨v, (T.setVm vm₁).calling g' mk (Value.ref b :: As).toArray, t, U', L, hT, X', hL, e1, e2, hq, st⟩
  · dsimp only [Pt.U, Pt.locs, Pt.cells, Pt.slots] at X' e1 e2 h1 h2 h3 st hcl
    subst h1; subst h2; subst h3
    exact Or.inr ⟨q, (T.setVm vm₁).calling g' mk (Value.ref b :: As).toArray, t, U', L, E, ce, hT, X', hL, e1, e2, hq, hce, hcv, vx_cls hW₁ hcl, st⟩
theorem vx_runS (S : CallFix p m c cc nL s args Ts own) (hM : vx_Met l y ws rm Pc Qc XC mc ms free) (cw : CallB R s args own index y bytes maxL ret ws rm mc ms n ∧ (Cond.static y).before args s = true) (hp : PreS s H Pc As)
    (hg : g.method = m) (hn : As.length = n) (hsize : g.locals.size = nL) (hstack : g.stack = As.reverse ++ rest) (hW : 2 * g.monitorRoom + (rest.map fun v => v.category).sum ≤ 8) (hdg : decode cc g.pc = .ok (.invokestatic index, 3)) (hf : cells + mc ≤ R.cells ∧ slots + ms ≤ R.slots) :
    vx_Run p l e R s m args below meth c H locs cells slots mc ms g rest (Qc As.toArray) XC free := by
  have hK : vx_Back l R p e below s args y 3 8 (PreOf R mc ms Pc) (PostOf Qc mc ms free) (vx_Post XC mc ms free) := vx_callBack cw.1 hM hp.1
  obtain ⟨⟨-, -, -, -, -, -, hcode, hini, hy, hlen, hl⟩, hstt⟩ := cw
  obtain ⟨hx, hb, hml, ho, -⟩ := S
  intro T hT X
  rcases vx_callS X hx (bytes := bytes) (maxL := maxL) (ret := ret) ho hl hstt hini hcode hy hK hg (hsize.trans hml.symm) (argsL := As) (rest := rest) (fun sig h => hn.trans (hlen sig h)) hstack hW (by rw [hb]; exact hdg)
    (fun vm₁ hW₁ => ⟨hf.1, hf.2, hp.2 (T.setVm vm₁) hT hW₁⟩) with ⟨v, vm₁, ⟨U', l2, c2, s2⟩, hW₁, X', ⟨g', mk, t, L, e1, e2, hq, h1, hL, h2, h3⟩, st⟩ | ⟨q, vm₁, ⟨U', l2, c2, s2⟩, hW₁, X', ⟨g', mk, t, L, E, ce, e1, e2, hq, hce, hcv, hcl, h1, hL, h2, h3⟩, st⟩
  · dsimp only [Pt.U, Pt.locs, Pt.cells, Pt.slots] at X' e1 e2 h1 h2 h3 st
    subst h1; subst h2; subst h3
    exact Or.inl ⟨v, (T.setVm vm₁).calling g' mk As.toArray, t, U', L, hT, X', hL, e1, e2, hq, st⟩
  · dsimp only [Pt.U, Pt.locs, Pt.cells, Pt.slots] at X' e1 e2 h1 h2 h3 st hcl
    subst h1; subst h2; subst h3
    exact Or.inr ⟨q, (T.setVm vm₁).calling g' mk As.toArray, t, U', L, E, ce, hT, X', hL, e1, e2, hq, hce, hcv, vx_cls hW₁ hcl, st⟩
end Runs
section Rows
variable {p : Program} {l : Launch} {e : Env} {R : Room} {s : State} {m : MethodId} {args : Array Value} {below : List Frame} {meth : Method} {c : Code} {H : Heap} {locs : List Loc} {cells slots : Nat} {Q : State → Prop}
variable {mc ms : Nat} {free : Addr → Prop} {A0 A1 : Nat → Prop} {H0 : Heap} {a : Array Value} {pc : Nat} {ls : Array Slot} {st0 rest : List Value}
theorem vx_keep {st₀ t T' : State} {L : List Loc} (h0 : st₀.heap = H) (e1 : T'.heap = t.heap) (hS : va_S A0 H0 H locs) (hA : ∀ q, q < H.size → A1 q → A0 q) (hf : ∀ q, free q → A0 q) (hL : ∀ q ∈ L, free q.base) (hF : va_F A1 st₀ t) :
    H.size ≤ T'.heap.size ∧ (∀ q : Nat, q < H.size → ¬ A1 q → T'.heap[q]? = H[q]?) ∧ va_S A0 H0 T'.heap (locs ++ L) := by
  obtain ⟨hz, hk⟩ := hF
  rw [h0] at hz hk
  exact ⟨by rw [e1]; exact hz, fun q h1 h2 => by rw [e1]; exact hk q h1 h2,
    ⟨Nat.le_trans hS.1 (by rw [e1]; exact hz), fun q h1 h2 => by rw [e1, hk q (Nat.lt_of_lt_of_le h1 hS.1) (fun z => h2 (hA q (Nat.lt_of_lt_of_le h1 hS.1) z))]; exact hS.2.1 q h1 h2, fun q hq => by
      rcases List.mem_append.mp hq with h | h
      · exact hS.2.2 q h
      · exact hf _ (hL q h)⟩⟩
theorem vx_calli {S SX : Type} {post : Int32 → S → Prop} {px : SX → Prop} {B : S → State → Prop} {BX : String → SX → State → Prop} {AX : Nat → Prop} (hr : vx_Run p l e R s m args below meth c H locs cells slots mc ms (F0 m pc ls st0) rest (va_Qi post B A1 a) (vx_X px BX AX) free) (hS : va_S A0 H0 H locs) (hA : ∀ q, q < H.size → A1 q → A0 q) (hf : ∀ q, free q → A0 q) (hAX : ∀ q, q < H.size → AX q → A0 q)
    (kx : ∀ (E : String) (ce : Cell) (q9 : Addr) (u : SX) (t : State) (H1 : Heap) (locs1 : List Loc), t.heap = H1 → s.vm.Alike t.vm → px u → BX E u t → H.size ≤ H1.size → (∀ q : Nat, q < H.size → ¬ AX q → H1[q]? = H[q]?) → va_S A0 H0 H1 locs1 → H1[q9]? = some ce → ce.vm = .none → s.vm.findClass E = some ce.cls → vx_W p l e R s m args below meth c H1 locs1 (cells + mc) (slots + ms) Q (F0 m pc ls rest) q9)
    (kk : ∀ (r : Int32) (u : S) (t : State) (H1 : Heap) (locs1 : List Loc), t.heap = H1 → s.vm.Alike t.vm → post r u → B u t → H.size ≤ H1.size → (∀ q : Nat, q < H.size → ¬ A1 q → H1[q]? = H[q]?) → va_S A0 H0 H1 locs1 → W p l e R s m args below meth c H1 locs1 (cells + mc) (slots + ms) Q (F0 m (pc + 3) ls (.int r :: rest))) : W p l e R s m args below meth c H locs cells slots Q (F0 m pc ls st0) := by
  intro T hT X
  rcases hr T hT X with ⟨v, st₀, t, T', L, h0, X', hL, e1, e2, ⟨⟨r, u, hv, hp, hb⟩, hF⟩, st⟩ | ⟨q, st₀, t, T', L, E, ce, h0, X', hL, e1, e2, ⟨u, hp, hb, hF⟩, hce, hcv, hcl, st⟩
  · cases hv
    obtain ⟨k1, k2, k3⟩ := vx_keep h0 e1 hS hA hf hL hF
    obtain ⟨t2, a1, b1⟩ := kk r u t T'.heap (locs ++ L) e1.symm (by rw [← e2]; exact X'.warmed.alike) hp hb k1 k2 k3 T' rfl X'
    exact ⟨t2, st t2 a1, b1⟩
  · obtain ⟨k1, k2, k3⟩ := vx_keep h0 e1 hS hAX hf hL hF
    obtain ⟨t2, a1, b1⟩ := kx E ce q u t T'.heap (locs ++ L) e1.symm (by rw [← e2]; exact X'.warmed.alike) hp hb k1 k2 k3 (by rw [e1]; exact hce) hcv hcl T' rfl X'
    exact ⟨t2, st.trans a1, b1⟩
theorem vx_calll {S SX : Type} {post : Int64 → S → Prop} {px : SX → Prop} {B : S → State → Prop} {BX : String → SX → State → Prop} {AX : Nat → Prop} (hr : vx_Run p l e R s m args below meth c H locs cells slots mc ms (F0 m pc ls st0) rest (va_Ql post B A1 a) (vx_X px BX AX) free) (hS : va_S A0 H0 H locs) (hA : ∀ q, q < H.size → A1 q → A0 q) (hf : ∀ q, free q → A0 q) (hAX : ∀ q, q < H.size → AX q → A0 q)
    (kx : ∀ (E : String) (ce : Cell) (q9 : Addr) (u : SX) (t : State) (H1 : Heap) (locs1 : List Loc), t.heap = H1 → s.vm.Alike t.vm → px u → BX E u t → H.size ≤ H1.size → (∀ q : Nat, q < H.size → ¬ AX q → H1[q]? = H[q]?) → va_S A0 H0 H1 locs1 → H1[q9]? = some ce → ce.vm = .none → s.vm.findClass E = some ce.cls → vx_W p l e R s m args below meth c H1 locs1 (cells + mc) (slots + ms) Q (F0 m pc ls rest) q9)
    (kk : ∀ (r : Int64) (u : S) (t : State) (H1 : Heap) (locs1 : List Loc), t.heap = H1 → s.vm.Alike t.vm → post r u → B u t → H.size ≤ H1.size → (∀ q : Nat, q < H.size → ¬ A1 q → H1[q]? = H[q]?) → va_S A0 H0 H1 locs1 → W p l e R s m args below meth c H1 locs1 (cells + mc) (slots + ms) Q (F0 m (pc + 3) ls (.long r :: rest))) : W p l e R s m args below meth c H locs cells slots Q (F0 m pc ls st0) := by
  intro T hT X
  rcases hr T hT X with ⟨v, st₀, t, T', L, h0, X', hL, e1, e2, ⟨⟨r, u, hv, hp, hb⟩, hF⟩, st⟩ | ⟨q, st₀, t, T', L, E, ce, h0, X', hL, e1, e2, ⟨u, hp, hb, hF⟩, hce, hcv, hcl, st⟩
  · cases hv
    obtain ⟨k1, k2, k3⟩ := vx_keep h0 e1 hS hA hf hL hF
    obtain ⟨t2, a1, b1⟩ := kk r u t T'.heap (locs ++ L) e1.symm (by rw [← e2]; exact X'.warmed.alike) hp hb k1 k2 k3 T' rfl X'
    exact ⟨t2, st t2 a1, b1⟩
  · obtain ⟨k1, k2, k3⟩ := vx_keep h0 e1 hS hAX hf hL hF
    obtain ⟨t2, a1, b1⟩ := kx E ce q u t T'.heap (locs ++ L) e1.symm (by rw [← e2]; exact X'.warmed.alike) hp hb k1 k2 k3 (by rw [e1]; exact hce) hcv hcl T' rfl X'
    exact ⟨t2, st.trans a1, b1⟩
theorem vx_callf {S SX : Type} {post : UInt32 → S → Prop} {px : SX → Prop} {B : S → State → Prop} {BX : String → SX → State → Prop} {AX : Nat → Prop} (hr : vx_Run p l e R s m args below meth c H locs cells slots mc ms (F0 m pc ls st0) rest (va_Qf post B A1 a) (vx_X px BX AX) free) (hS : va_S A0 H0 H locs) (hA : ∀ q, q < H.size → A1 q → A0 q) (hf : ∀ q, free q → A0 q) (hAX : ∀ q, q < H.size → AX q → A0 q)
    (kx : ∀ (E : String) (ce : Cell) (q9 : Addr) (u : SX) (t : State) (H1 : Heap) (locs1 : List Loc), t.heap = H1 → s.vm.Alike t.vm → px u → BX E u t → H.size ≤ H1.size → (∀ q : Nat, q < H.size → ¬ AX q → H1[q]? = H[q]?) → va_S A0 H0 H1 locs1 → H1[q9]? = some ce → ce.vm = .none → s.vm.findClass E = some ce.cls → vx_W p l e R s m args below meth c H1 locs1 (cells + mc) (slots + ms) Q (F0 m pc ls rest) q9)
    (kk : ∀ (r : UInt32) (u : S) (t : State) (H1 : Heap) (locs1 : List Loc), t.heap = H1 → s.vm.Alike t.vm → post r u → B u t → H.size ≤ H1.size → (∀ q : Nat, q < H.size → ¬ A1 q → H1[q]? = H[q]?) → va_S A0 H0 H1 locs1 → W p l e R s m args below meth c H1 locs1 (cells + mc) (slots + ms) Q (F0 m (pc + 3) ls (.float r :: rest))) : W p l e R s m args below meth c H locs cells slots Q (F0 m pc ls st0) := by
  intro T hT X
  rcases hr T hT X with ⟨v, st₀, t, T', L, h0, X', hL, e1, e2, ⟨⟨r, u, hv, hp, hb⟩, hF⟩, st⟩ | ⟨q, st₀, t, T', L, E, ce, h0, X', hL, e1, e2, ⟨u, hp, hb, hF⟩, hce, hcv, hcl, st⟩
  · cases hv
    obtain ⟨k1, k2, k3⟩ := vx_keep h0 e1 hS hA hf hL hF
    obtain ⟨t2, a1, b1⟩ := kk r u t T'.heap (locs ++ L) e1.symm (by rw [← e2]; exact X'.warmed.alike) hp hb k1 k2 k3 T' rfl X'
    exact ⟨t2, st t2 a1, b1⟩
  · obtain ⟨k1, k2, k3⟩ := vx_keep h0 e1 hS hAX hf hL hF
    obtain ⟨t2, a1, b1⟩ := kx E ce q u t T'.heap (locs ++ L) e1.symm (by rw [← e2]; exact X'.warmed.alike) hp hb k1 k2 k3 (by rw [e1]; exact hce) hcv hcl T' rfl X'
    exact ⟨t2, st.trans a1, b1⟩
theorem vx_calld {S SX : Type} {post : UInt64 → S → Prop} {px : SX → Prop} {B : S → State → Prop} {BX : String → SX → State → Prop} {AX : Nat → Prop} (hr : vx_Run p l e R s m args below meth c H locs cells slots mc ms (F0 m pc ls st0) rest (va_Qd post B A1 a) (vx_X px BX AX) free) (hS : va_S A0 H0 H locs) (hA : ∀ q, q < H.size → A1 q → A0 q) (hf : ∀ q, free q → A0 q) (hAX : ∀ q, q < H.size → AX q → A0 q)
    (kx : ∀ (E : String) (ce : Cell) (q9 : Addr) (u : SX) (t : State) (H1 : Heap) (locs1 : List Loc), t.heap = H1 → s.vm.Alike t.vm → px u → BX E u t → H.size ≤ H1.size → (∀ q : Nat, q < H.size → ¬ AX q → H1[q]? = H[q]?) → va_S A0 H0 H1 locs1 → H1[q9]? = some ce → ce.vm = .none → s.vm.findClass E = some ce.cls → vx_W p l e R s m args below meth c H1 locs1 (cells + mc) (slots + ms) Q (F0 m pc ls rest) q9)
    (kk : ∀ (r : UInt64) (u : S) (t : State) (H1 : Heap) (locs1 : List Loc), t.heap = H1 → s.vm.Alike t.vm → post r u → B u t → H.size ≤ H1.size → (∀ q : Nat, q < H.size → ¬ A1 q → H1[q]? = H[q]?) → va_S A0 H0 H1 locs1 → W p l e R s m args below meth c H1 locs1 (cells + mc) (slots + ms) Q (F0 m (pc + 3) ls (.double r :: rest))) : W p l e R s m args below meth c H locs cells slots Q (F0 m pc ls st0) := by
  intro T hT X
  rcases hr T hT X with ⟨v, st₀, t, T', L, h0, X', hL, e1, e2, ⟨⟨r, u, hv, hp, hb⟩, hF⟩, st⟩ | ⟨q, st₀, t, T', L, E, ce, h0, X', hL, e1, e2, ⟨u, hp, hb, hF⟩, hce, hcv, hcl, st⟩
  · cases hv
    obtain ⟨k1, k2, k3⟩ := vx_keep h0 e1 hS hA hf hL hF
    obtain ⟨t2, a1, b1⟩ := kk r u t T'.heap (locs ++ L) e1.symm (by rw [← e2]; exact X'.warmed.alike) hp hb k1 k2 k3 T' rfl X'
    exact ⟨t2, st t2 a1, b1⟩
  · obtain ⟨k1, k2, k3⟩ := vx_keep h0 e1 hS hAX hf hL hF
    obtain ⟨t2, a1, b1⟩ := kx E ce q u t T'.heap (locs ++ L) e1.symm (by rw [← e2]; exact X'.warmed.alike) hp hb k1 k2 k3 (by rw [e1]; exact hce) hcv hcl T' rfl X'
    exact ⟨t2, st.trans a1, b1⟩
theorem vx_callv {S SX : Type} {post : S → Prop} {px : SX → Prop} {B : S → State → Prop} {BX : String → SX → State → Prop} {AX : Nat → Prop} (hr : vx_Run p l e R s m args below meth c H locs cells slots mc ms (F0 m pc ls st0) rest (va_Qv post B A1 a) (vx_X px BX AX) free) (hS : va_S A0 H0 H locs) (hA : ∀ q, q < H.size → A1 q → A0 q) (hf : ∀ q, free q → A0 q) (hAX : ∀ q, q < H.size → AX q → A0 q)
    (kx : ∀ (E : String) (ce : Cell) (q9 : Addr) (u : SX) (t : State) (H1 : Heap) (locs1 : List Loc), t.heap = H1 → s.vm.Alike t.vm → px u → BX E u t → H.size ≤ H1.size → (∀ q : Nat, q < H.size → ¬ AX q → H1[q]? = H[q]?) → va_S A0 H0 H1 locs1 → H1[q9]? = some ce → ce.vm = .none → s.vm.findClass E = some ce.cls → vx_W p l e R s m args below meth c H1 locs1 (cells + mc) (slots + ms) Q (F0 m pc ls rest) q9)
    (kk : ∀ (u : S) (t : State) (H1 : Heap) (locs1 : List Loc), t.heap = H1 → s.vm.Alike t.vm → post u → B u t → H.size ≤ H1.size → (∀ q : Nat, q < H.size → ¬ A1 q → H1[q]? = H[q]?) → va_S A0 H0 H1 locs1 → W p l e R s m args below meth c H1 locs1 (cells + mc) (slots + ms) Q (F0 m (pc + 3) ls (rest))) : W p l e R s m args below meth c H locs cells slots Q (F0 m pc ls st0) := by
  intro T hT X
  rcases hr T hT X with ⟨v, st₀, t, T', L, h0, X', hL, e1, e2, ⟨⟨u, hv, hp, hb⟩, hF⟩, st⟩ | ⟨q, st₀, t, T', L, E, ce, h0, X', hL, e1, e2, ⟨u, hp, hb, hF⟩, hce, hcv, hcl, st⟩
  · cases hv
    obtain ⟨k1, k2, k3⟩ := vx_keep h0 e1 hS hA hf hL hF
    obtain ⟨t2, a1, b1⟩ := kk u t T'.heap (locs ++ L) e1.symm (by rw [← e2]; exact X'.warmed.alike) hp hb k1 k2 k3 T' rfl X'
    exact ⟨t2, st t2 a1, b1⟩
  · obtain ⟨k1, k2, k3⟩ := vx_keep h0 e1 hS hAX hf hL hF
    obtain ⟨t2, a1, b1⟩ := kx E ce q u t T'.heap (locs ++ L) e1.symm (by rw [← e2]; exact X'.warmed.alike) hp hb k1 k2 k3 (by rw [e1]; exact hce) hcv hcl T' rfl X'
    exact ⟨t2, st.trans a1, b1⟩
/-- caught by the row x of this method's table; the rows ahead don't take it -/
theorem vx_catch {own name : String} {E : String} {ce : Cell} {q : Addr} (hown : s.vm.findClass own = some m.cls) (pre : List ExceptionTableEntry) (x : ExceptionTableEntry) (suf : List ExceptionTableEntry) (hsplit : c.exceptionTable.toList = pre ++ x :: suf)
    (hpass : ∀ z ∈ pre, covers z pc = false ∨ (z.catchType ≠ 0 ∧ ∃ nm : String, (Cond.classLink own z.catchType nm).before args s = true ∧ va_Nc E nm s)) (hx : covers x pc = true) (h0 : x.catchType ≠ 0)
    (hlink : (Cond.classLink own x.catchType name).before args s = true) (hcast : (Cond.castable E name).before args s = true) (hcell : H[q]? = some ce) (hv : ce.vm = .none) (hcl : s.vm.findClass E = some ce.cls)
    (kk : W p l e R s m args below meth c H locs cells slots Q (F0 m x.handlerPc ls [.ref q])) : vx_W p l e R s m args below meth c H locs cells slots Q (F0 m pc ls rest) q := by
  intro T hT X
  have hpl : e.platform.magicAccessors = ({} : Platform).magicAccessors := by rw [X.admits.platform]
  obtain ⟨c3, c4, hc3, hc4, hasg⟩ := Cond.castable_spec hcast
  cases Option.some.inj (hc3.symm.trans hcl)
  obtain ⟨c5, hc5, hcl5⟩ := Cond.classLink_spec hown hlink e.platform hpl
  cases Option.some.inj (hc4.symm.trans hc5)
  obtain ⟨vm', X', st⟩ := X.thenCaughtThrough q (g := F0 m pc ls rest) rfl (Steps.refl _) (by rw [hT]; exact hcell) (by rw [hv]; rfl) (by obtain ⟨k9, h9, -⟩ := Vm.findClass_spec hcl; exact ⟨k9, h9⟩) pre x suf hsplit
    (fun z hz => by
      rcases hpass z hz with h | ⟨hz0, nm, hl1, hn1⟩
      · exact Or.inl h
      · obtain ⟨c6, hc6, hcl6⟩ := Cond.classLink_spec hown hl1 e.platform hpl
        obtain ⟨a8, b8, h1, h2, h3⟩ := hn1
        cases Option.some.inj (h1.symm.trans hcl)
        cases Option.some.inj (h2.symm.trans hc6)
        exact Or.inr ⟨hz0, _, hcl6, h3⟩) hx (Or.inr ⟨h0, c4, hcl5, hasg⟩)
  obtain ⟨t, a1, b1⟩ := kk (T.setVm vm') hT X'
  exact ⟨t, st.trans a1, b1⟩
end Rows
section Ends
variable {p : Program} {l : Launch} {e : Env} {R : Room} {s : State} {m : MethodId} {args : Array Value} {below : List Frame} {meth : Method} {c : Code} {H : Heap} {locs : List Loc} {cells slots : Nat} {Q : State → Prop}
variable {mc ms : Nat} {free : Addr → Prop} {A0 A1 : Nat → Prop} {H0 : Heap} {a : Array Value} {ls : Array Slot} {st0 rest : List Value}
variable {Qc : Array Value → State → Outcome → State → Prop} {XC : String → State → State → Prop}
/-- what a body that may throw owes at its end -/
def vx_MQ (below : List Frame) (Qc : Array Value → State → Outcome → State → Prop) (XC : String → State → State → Prop) (a : Array Value) (s : State) (mc ms : Nat) (free : Addr → Prop) : State → Prop := fun t =>
  ∃ o, t.status = .running ∧ Ended t below o ∧ vx_Q Qc XC mc ms free a s o t
theorem vx_ret {g : JFrame} {mc ms : Nat} (k : W p l e R s m args below meth c H locs cells slots (MQ below Qc args s mc ms free) g) : W p l e R s m args below meth c H locs cells slots (vx_MQ below Qc XC args s mc ms free) g := by
  intro T hT X
  obtain ⟨t, a1, o, b1, b2, b3, b4⟩ := k T hT X
  exact ⟨t, a1, o, b1, b2, Or.inl ⟨b3, b4⟩⟩
/-- not caught here: it goes on to the caller -/
theorem vx_widen {g : JFrame} {q : Addr} {k n : Nat} (h1 : cells ≤ k) (h2 : slots ≤ n) (kk : vx_W p l e R s m args below meth c H locs k n Q g q) : vx_W p l e R s m args below meth c H locs cells slots Q g q := fun T hT X => kk T hT (stand_widen X h1 h2)
theorem vx_out {pc : Nat} {E : String} {ce : Cell} {q : Addr} {mc ms : Nat} (hout : ∀ x ∈ c.exceptionTable.toList, covers x pc = false) (hlocks : meth.locks = false) (hcell : H[q]? = some ce) (hv : ce.vm = .none) (hcl : s.vm.findClass E = some ce.cls)
    (hx : ∀ t : State, t.heap = H → s.vm.Alike t.vm → XC E s t) (hf : ∀ z ∈ locs, free z.base) (hc : cells ≤ mc) (hs : slots ≤ ms) :
    vx_W p l e R s m args below meth c H locs cells slots (vx_MQ below Qc XC args s mc ms free) (F0 m pc ls rest) q := by
  intro T hT X
  obtain ⟨st1, hrun, hend, hW, hsm⟩ := X.leaveThrown q (g := F0 m pc ls rest) rfl rfl rfl hout hlocks
  have hcell9 : (T.setFrames (.throwing q :: below)).heap[q]? = some ce := by
    show T.heap[q]? = some ce
    rw [hT]; exact hcell
  exact ⟨_, st1, .threw q, hrun, hend, Or.inr ⟨q, rfl, E, ce, locs, hx _ hT hW.alike, hcell9, hv, hcl, hW, hsm.mono hc hs, hf⟩⟩
theorem vx_frame {U : State} {k n : Nat} (h : s.sameButNew ({ U with vm := s.vm } : State) locs k n) : s.heap.size ≤ U.heap.size ∧ ∀ q : Nat, q < s.heap.size → (∀ z ∈ locs, z.base ≠ q) → U.heap[q]? = s.heap[q]? := by
  obtain ⟨-, h2, -, -, -, h6⟩ := h
  refine ⟨h2, fun q hq hz => ?_⟩
  obtain ⟨c9, e1, e2, e3, e4⟩ := h6 q _ (Array.getElem?_eq_getElem hq)
  have hs : c9.slots = (s.heap[q]).slots := Array.ext_getElem? fun i => e4 i fun hm => hz _ hm rfl
  have h9 : c9 = s.heap[q] := by
    rw [hs] at e2
    exact e2
  have e5 : U.heap[q]? = some c9 := e1
  rw [e5, h9, Array.getElem?_eq_getElem hq]
/-- the words of a throw but the four that speak of the heap -/
def vx_no (w : Cond) : Bool := decide (w ≠ .isRef (.static Bundle.tN "UNASSIGNED_STACK" Bundle.steD)) && decide (w ≠ .isRef (.static Bundle.tN "SUPPRESSED_SENTINEL" Bundle.listD)) && decide (w ≠ .laysStatic Bundle.tN "UNASSIGNED_STACK" Bundle.steD) && decide (w ≠ .laysStatic Bundle.tN "SUPPRESSED_SENTINEL" Bundle.listD)
def vx_at0 (own : String) (ic : Nat) (X : String) (names : List String) : List Cond := (Bundle.ownAtoms0 own ic X names).filter vx_no
def vx_atS (own : String) (ic : Nat) (X : String) (names : List String) : List Cond := (Bundle.ownAtoms own ic X names).filter vx_no
/-- a word that the tables alone decide, or a good one -/
def vx_ot (w : Cond) : Bool := w.onTables || goodWord w
theorem vx_ot_at {args a' : Array Value} {s U : State} {w : Cond} (hW : s.WarmedH U.vm) (hvm : s.vm = U.vm) (hg : vx_ot w = true) (h : w.before args s = true) : w.before a' U = true := by
  simp only [vx_ot, Bool.or_eq_true] at hg
  rcases hg with hg | hg
  · exact va_tabs hg hvm h
  · exact word_at hW (good_of_word hg) h
/-- a list's words: the good ones out of the method's own list, the others by premises of their own -/
theorem vx_hat {args : Array Value} {s : State} {L B : List Cond} (h1 : ∀ w ∈ L.filter goodWord, w.before args s = true) (h2 : ∀ w ∈ L.filter (fun w => !goodWord w), w ∈ B) (h3 : ∀ w ∈ B, w.before args s = true) : ∀ w ∈ L, w.before args s = true := by
  intro w hw
  by_cases g : goodWord w = true
  · exact h1 w (List.mem_filter.mpr ⟨hw, g⟩)
  · refine h3 w (h2 w (List.mem_filter.mpr ⟨hw, ?_⟩))
    show (!goodWord w) = true
    cases hgw : goodWord w
    · rfl
    · exact absurd hgw g
theorem vx_c {args : Array Value} {s : State} {w : Cond} {B : List Cond} (h : w.before args s = true) (t : ∀ w ∈ B, w.before args s = true) : ∀ w' ∈ w :: B, w'.before args s = true := fun w' h' => (List.mem_cons.mp h').elim (fun e => by rw [e]; exact h) (t w')
theorem vx_n {args : Array Value} {s : State} : ∀ w ∈ ([] : List Cond), w.before args s = true := fun _ h => nomatch h
theorem vx_own {args : Array Value} {s : State} {L : List Cond} (h1 : ∀ w ∈ L.filter vx_no, w.before args s = true)
    (hU : (Cond.isRef (.static Bundle.tN "UNASSIGNED_STACK" Bundle.steD)).before args s = true) (hN : (Cond.isRef (.static Bundle.tN "SUPPRESSED_SENTINEL" Bundle.listD)).before args s = true)
    (lU : (Cond.laysStatic Bundle.tN "UNASSIGNED_STACK" Bundle.steD).before args s = true) (lN : (Cond.laysStatic Bundle.tN "SUPPRESSED_SENTINEL" Bundle.listD).before args s = true) : ∀ w ∈ L, w.before args s = true := by
  intro w hw
  by_cases e1 : w = .isRef (.static Bundle.tN "UNASSIGNED_STACK" Bundle.steD)
  · rw [e1]; exact hU
  · by_cases e2 : w = .isRef (.static Bundle.tN "SUPPRESSED_SENTINEL" Bundle.listD)
    · rw [e2]; exact hN
    · by_cases e3 : w = .laysStatic Bundle.tN "UNASSIGNED_STACK" Bundle.steD
      · rw [e3]; exact lU
      · by_cases e4 : w = .laysStatic Bundle.tN "SUPPRESSED_SENTINEL" Bundle.listD
        · rw [e4]; exact lN
        · exact h1 w (List.mem_filter.mpr ⟨hw, by unfold vx_no; rw [decide_eq_true e1, decide_eq_true e2, decide_eq_true e3, decide_eq_true e4]; rfl⟩)
/-- where a static field lies, its class's statics cell in H -/
def vx_L (C n d : String) (A : Nat → Prop) (U : State) (H : Heap) : Prop := ∃ (c : ClassId) (k : Class) (i : Nat) (f : Field) (a : Nat) (cell : Cell), U.vm.findClass C = some c ∧ U.fieldFound? C n d = some (c, k, i, f) ∧ f.isStatic = true ∧ k.statics = some a ∧ H[a]? = some cell ∧ cell.vm.isStatics = true ∧ cell.cls = c ∧ f.slot < cell.slots.size ∧ k.staticTypes[f.slot]? = some f.type ∧ ¬ A a
theorem vx_L.moved {C n d : String} {A : Nat → Prop} {u U : State} {H : Heap} (hvm : u.vm.Alike U.vm) (h : vx_L C n d A u H) : vx_L C n d A U H := by
  obtain ⟨c, k, i, f, a, cell, h1, h2, h3, h4, h5, h6, h7, h8, h9, h10⟩ := h
  obtain ⟨k', hi', he⟩ := State.fieldFound?_setVm hvm h2
  exact ⟨c, k', i, f, a, cell, by rw [hvm.findClass]; exact h1, hi', h3, by rw [he]; exact h4, h5, h6, h7, h8, by rw [he]; exact h9, h10⟩
theorem vx_L.kept {C n d : String} {A : Nat → Prop} {U : State} {H H1 : Heap} (h : vx_L C n d A U H) (hq : ∀ a : Nat, a < H.size → ¬ A a → H1[a]? = H[a]?) : vx_L C n d A U H1 := by
  obtain ⟨c, k, i, f, a, cell, h1, h2, h3, h4, h5, h6, h7, h8, h9, h10⟩ := h
  exact ⟨c, k, i, f, a, cell, h1, h2, h3, h4, by rw [hq a (Array.getElem?_eq_some_iff.mp h5).1 h10]; exact h5, h6, h7, h8, h9, h10⟩
theorem vx_L.narrow {C n d : String} {A B : Nat → Prop} {U : State} {H : Heap} (h : vx_L C n d A U H) (hAB : ∀ q, B q → A q) : vx_L C n d B U H := by
  obtain ⟨c, k, i, f, a, cell, h1, h2, h3, h4, h5, h6, h7, h8, h9, h10⟩ := h
  exact ⟨c, k, i, f, a, cell, h1, h2, h3, h4, h5, h6, h7, h8, h9, fun z => h10 (hAB _ z)⟩
theorem vx_L.word {C n d : String} {A : Nat → Prop} {s : State} {args : Array Value} (h : vx_L C n d A s s.heap) : (Cond.laysStatic C n d).before args s = true := by
  obtain ⟨c, k, i, f, a, cell, h1, h2, h3, h4, h5, h6, h7, h8, h9, -⟩ := h
  show (Cond.laysStatic C n d).holds args s none s [] = true
  exact Cond.laysStatic_of h1 h2 h3 h4 h5 h6 h7 h8 h9
/-- .. and what it holds: null or some reference -/
def vx_Zq (C n d : String) (A : Nat → Prop) (U : State) (H : Heap) : Prop := va_Zq C n d A U H ∧ vx_L C n d A U H
theorem vx_Zq.moved {C n d : String} {A : Nat → Prop} {u U : State} {H : Heap} (hvm : u.vm.Alike U.vm) (h : vx_Zq C n d A u H) : vx_Zq C n d A U H := ⟨va_Zq.moved hvm h.1, vx_L.moved hvm h.2⟩
theorem vx_Zq.kept {C n d : String} {A : Nat → Prop} {U : State} {H H1 : Heap} (h : vx_Zq C n d A U H) (hq : ∀ a : Nat, a < H.size → ¬ A a → H1[a]? = H[a]?) : vx_Zq C n d A U H1 := ⟨va_Zq.kept h.1 hq, vx_L.kept h.2 hq⟩
theorem vx_Zq.narrow {C n d : String} {A B : Nat → Prop} {U : State} {H : Heap} (h : vx_Zq C n d A U H) (hAB : ∀ q, B q → A q) : vx_Zq C n d B U H := ⟨va_Zq.narrow h.1 hAB, vx_L.narrow h.2 hAB⟩
theorem vx_Zqof {args : Array Value} {s : State} {C n d : String} {A : Nat → Prop} (hl : (Cond.laysStatic C n d).before args s = true) (hini : (Cond.initialized C).before args s = true) (h : (Cond.isRef (.static C n d)).before args s = true) (hA : ∀ a : Nat, a < s.heap.size → ¬ A a) : vx_Zq C n d A s s.heap := by
  refine ⟨va_Zqof hl hini h hA, ?_⟩
  obtain ⟨c, k, i, f, a, cell, h1, h2, h3, h4, h5, h6, h7, h8, h9⟩ := Cond.laysStatic_spec hl
  exact ⟨c, k, i, f, a, cell, h1, h2, h3, h4, h5, h6, h7, h8, h9, hA a (Array.getElem?_eq_some_iff.mp h5).1⟩
theorem vx_isRef {C n d : String} {v : Value} {A : Nat → Prop} {s : State} {args : Array Value} (h : va_Z C n d v A s s.heap) (hv : v.isRef = true) : (Cond.isRef (.static C n d)).before args s = true := by
  obtain ⟨cf, kf, fi, f, a, cell, h1, h2, h3, h4, h5, h6, h7, -⟩ := h
  have he : (Term.static C n d).eval args s none [] s = some v := by
    simp [Term.eval, State.fieldNamed?, h1, h2, h4, h5, h6, h7]
  simp only [Cond.before, Cond.holds, Cond.value, he]
  cases v <;> simp_all [Value.isRef]
theorem vx_isRefq {C n d : String} {A : Nat → Prop} {s : State} {args : Array Value} (h : va_Zq C n d A s s.heap) : (Cond.isRef (.static C n d)).before args s = true := by
  rcases h with h | ⟨t, h⟩
  · exact vx_isRef h rfl
  · exact vx_isRef h rfl
/-- the same frame, seen from here: as if the method were called anew in this heap -/
theorem vx_rebase {T : State} (X : Stand p l e R s m args below meth c T locs cells slots) {R' : Room} (hf : R'.frames ≤ R.frames) (hl : R'.locals ≤ R.locals) (hc : cells + R'.cells ≤ R.cells) (hs : slots + R'.slots ≤ R.slots) :
    Stand p l e R' ((T.setVm s.vm).setFrames (.invoking m args :: below)) m args below meth c T [] 0 0 := by
  have htop : (T.setVm s.vm).topJava?.isSome := X.here.top
  have hF : ((T.setVm s.vm).setFrames (.invoking m args :: below)).frames = .invoking m args :: below := State.frames_setFrames _ (State.cur_lt_of_top htop)
  obtain ⟨g₀, hg0⟩ := Option.isSome_iff_exists.mp htop
  obtain ⟨r, hr⟩ := State.topJava?_eq_some.mp hg0
  have hl9 : e.platform.stackLimits (T.setVm s.vm).me = e.platform.stackLimits s.me := X.limits
  have hb9 : (T.setVm s.vm).me.stackBytes = s.me.stackBytes := X.bytes
  refine ⟨X.admits, X.cas, X.clock, hF, ?_, X.hears, X.method, X.code, X.here, X.tail, X.warmed, ?_, ?_, ?_⟩
  · have h := X.room
    have hU : ((T.setVm s.vm).setFrames (.invoking m args :: below)).localsInUse = s.localsInUse := by
      rw [State.localsInUse_invoking hF (meth := meth) (c := c) X.method X.code, State.localsInUse_invoking X.frames X.method X.code]
    simp only [State.hasRoom, Bool.and_eq_true, decide_eq_true_eq] at h ⊢
    obtain ⟨⟨⟨⟨h1, h2, h3, h4, h5, h6⟩, h7⟩, h8⟩, h9⟩ := h
    rw [X.frames, List.length_cons] at h2 h3
    have q1 := X.heapSize
    have q2 := X.used
    simp only [hF, hU, List.length_cons, State.stackLimits_setFrames, State.stackBytes_setFrames, hl9, hb9]
    refine ⟨⟨⟨⟨by omega, by omega, by omega, by omega, by omega, h6⟩, ?_⟩, ?_⟩, X.book⟩
    · show T.heap.size + R'.cells ≤ e.platform.maxCells
      omega
    · show T.slotsUsed + R'.slots ≤ e.platform.maxSlots
      omega
  · rw [State.stackLimits_setFrames]; rfl
  · rw [State.stackBytes_setFrames]; rfl
  · refine ⟨?_, Nat.le_refl _, Nat.le_refl _, ?_, ?_, fun a c9 h9 => ⟨c9, h9, rfl, rfl, fun _ _ => rfl⟩⟩
    · obtain ⟨t, ht, -⟩ := State.frames_cons hr
      show T.setVm s.vm = { ((T.setVm s.vm).setFrames (.invoking m args :: below)).setFrames (T.setVm s.vm).frames with heap := T.heap, slotsUsed := T.slotsUsed }
      rw [State.setFrames_setFrames, State.setFrames_self ht]
      rfl
    · show T.slotsUsed = T.slotsUsed + ((T.heap.toList.drop T.heap.size).map (·.slots.size)).sum
      rw [List.drop_eq_nil_of_le (Nat.le_of_eq Array.length_toList)]
      rfl
    · show ((T.heap.toList.drop T.heap.size).map (·.slots.size)).sum ≤ 0
      rw [List.drop_eq_nil_of_le (Nat.le_of_eq Array.length_toList)]
      exact Nat.le_refl _
/-- 'throw new E()': new; dup; invokespecial; athrow -/
theorem vx_throw0 {cc : ByteArray} {pc : Nat} (hexec : p.tables.exec = Jvm.exec) (hb : c.code = cc) (hl : l.stackTraces = false) {own cls : String} {names : List String} {ik ic mc ms : Nat} {A : Nat → Prop}
    (hown : s.vm.findClass own = some m.cls) (hcls : Bundle.fit cls = true) (hnames : ∀ n ∈ names, Bundle.fit n = true)
    (hk : (Cond.classLink own ik cls).before args s = true) (hini : (Cond.initialized cls).before args s = true) (hat : ∀ w ∈ vx_at0 own ic cls names, w.before args s = true)
    (hgood : ∀ w ∈ Cond.classLink own ik cls :: Cond.initialized cls :: vx_at0 own ic cls names, vx_ot w = true)
    (hU : vx_Zq Bundle.tN "UNASSIGNED_STACK" Bundle.steD A s s.heap) (hN : vx_Zq Bundle.tN "SUPPRESSED_SENTINEL" Bundle.listD A s s.heap) (hS : va_S A s.heap H locs) (hsize : ls.size = c.maxLocals)
    (d0 : decode cc pc = .ok (.new ik, 3)) (d3 : decode cc (pc + 3) = .ok (.dup, 1)) (d4 : decode cc (pc + 4) = .ok (.invokespecial ic, 3)) (d7 : decode cc (pc + 7) = .ok (.athrow, 1))
    (hout : ∀ x ∈ c.exceptionTable.toList, covers x (pc + 7) = false)
    (hRframes : names.length + 3 < R.frames) (hRlocals : (rest.map fun v => v.category).sum + (13 * (names.length + 1) + 42) ≤ R.locals) (hRcells : cells + 1 ≤ R.cells) (hRslots : slots + 6 ≤ R.slots) (hlocks : meth.locks = false)
    (hx : ∀ t : State, s.vm.Alike t.vm → H.size ≤ t.heap.size → (∀ q : Nat, q < H.size → t.heap[q]? = H[q]?) → XC cls s t)
    (hf : ∀ z ∈ locs, free z.base) (hc : cells + 1 ≤ mc) (hs : slots + 6 ≤ ms) :
    W p l e R s m args below meth c H locs cells slots (vx_MQ below Qc XC args s mc ms free) (F0 m pc ls rest) := by
  intro T hT X
  have htr : e.platform.stackTraces = false := (show e.platform.stackTraces = l.stackTraces by rw [X.admits.platform]).trans hl
  have Y := vx_rebase X (R' := { frames := R.frames, locals := R.locals, cells := 1, slots := 6 }) (Nat.le_refl _) (Nat.le_refl _) hRcells hRslots
  obtain ⟨s', hA⟩ : ∃ z, z = (T.setVm s.vm).setFrames (.invoking m args :: below) := ⟨_, rfl⟩
  rw [← hA] at Y
  have hvm : s'.vm = s.vm := by rw [hA]; rfl
  have hhp : s'.heap = H := by rw [hA]; exact hT
  have hW0 : s.WarmedH s'.vm := by rw [hvm]; exact State.WarmedH.refl s
  have hat' : ∀ w ∈ vx_at0 own ic cls names, w.before args s' = true := fun w hw => vx_ot_at hW0 hvm.symm (hgood w (List.mem_cons_of_mem _ (List.mem_cons_of_mem _ hw))) (hat w hw)
  have hk' : (Cond.classLink own ik cls).before args s' = true := vx_ot_at hW0 hvm.symm (hgood _ List.mem_cons_self) hk
  have hini' : (Cond.initialized cls).before args s' = true := vx_ot_at hW0 hvm.symm (hgood _ (List.mem_cons_of_mem _ List.mem_cons_self)) hini
  have hU' : vx_Zq Bundle.tN "UNASSIGNED_STACK" Bundle.steD A s' s'.heap := by rw [hhp]; exact vx_Zq.moved hW0.alike (hU.kept hS.2.1)
  have hN' : vx_Zq Bundle.tN "SUPPRESSED_SENTINEL" Bundle.listD A s' s'.heap := by rw [hhp]; exact vx_Zq.moved hW0.alike (hN.kept hS.2.1)
  have h : ∀ w ∈ Bundle.ownAtoms0 own ic cls names, w.before args s' = true := vx_own hat' (vx_isRefq hU'.1) (vx_isRefq hN'.1) hU'.2.word hN'.2.word
  have hown' : s'.vm.findClass own = some m.cls := by rw [hvm]; exact hown
  have hins : (Cond.instantiable cls 6).before args s' = true := h _ (by simp [Bundle.ownAtoms0])
  obtain ⟨vm₁, cX, kX, hfX, hkX, -, -, X₁, st1⟩ := Y.newCold hexec (own := own) (C := cls) (index := ik) (n := 6) hown' hk' hins hini'
    (g := F0 m pc ls rest) rfl (by rw [hb]; exact d0) (Nat.le_refl _) (Nat.le_refl _)
  generalize hT1 : (T.setVm vm₁).pushCell { cls := cX, slots := kX.instanceTypes.map defaultValue, vm := .none } = T1 at X₁ st1
  have hcat : (Value.ref T.heap.size).category = 1 := rfl
  have hcellA : T1.heap[T.heap.size]? = some (freshCell cX kX) := by rw [← hT1]; exact State.heap_pushCell_size _ _
  have d3' : decode c.code (pc + 3) = .ok (.dup, 1) := by rw [hb]; exact d3
  obtain ⟨U, hsteps, hrun, hend, hW, hsame, ce, hce, hO⟩ := X₁.ctorThrow0 hexec htr (own := own) (cls := cls) (names := names) (ic := ic) hown' hcls hnames h (fun x hx => nomatch hx) hfX hkX hcellA (by rw [hhp, hT]; exact Nat.le_refl _)
    (g := { method := m, pc := pc + 4, locals := ls, stack := .ref T.heap.size :: .ref T.heap.size :: rest, locked := none }) rfl hsize rfl rfl (rest := rest) rfl
    (by rw [hb]; exact d4) (by rw [hb]; exact d7) hout hRframes (by simp only [List.map_cons, List.sum_cons, hcat]; omega) hlocks
  obtain ⟨f1, f2⟩ := vx_frame hsame
  rw [hhp] at f1 f2
  have hWs : s.WarmedH U.vm := State.WarmedH.trans hW0 hW
  have hcl : s.vm.findClass cls = some ce.cls := by
    have h9 := hO.cls
    rw [hvm] at h9
    exact h9
  have hall : s.sameButNew ({ U with vm := s.vm } : State) locs mc ms := by
    subst hA
    obtain ⟨e1, e2⟩ := hsame
    rw [State.setFrames_setFrames] at e1
    have h2 : (T.setVm s.vm).sameButNew ({ U with vm := s.vm } : State) [] (0 + 1) (0 + 6) := ⟨e1, e2⟩
    have h3 := X.same.trans h2
    rw [List.append_nil] at h3
    exact h3.mono hc hs
  refine ⟨U, ?_, .threw T.heap.size, hrun, hend, Or.inr ⟨T.heap.size, rfl, cls, ce, locs, hx U hWs.alike f1 (fun q hq => f2 q hq (fun z hz => nomatch hz)), hce, hO.vm, hcl, hWs, hall, hf⟩⟩
  refine st1 _ ?_
  show Steps p.tables e below (T1.setTop { method := m, pc := pc + 3, locals := ls, stack := .ref T.heap.size :: rest, locked := none }) _
  jvm_step X₁.here [X₁.here.top, hexec, d3', Value.category]
  exact hsteps
/-- 'throw new E("text")': new; dup; ldc; invokespecial; athrow -/
theorem vx_throwS {cc : ByteArray} {pc : Nat} (hexec : p.tables.exec = Jvm.exec) (hb : c.code = cc) (hl : l.stackTraces = false) {own cls text : String} {names : List String} {ik is ic mc ms sa : Nat} {A : Nat → Prop}
    (hown : s.vm.findClass own = some m.cls) (hcls : Bundle.fit cls = true) (hnames : ∀ n ∈ names, Bundle.fit n = true)
    (hk : (Cond.classLink own ik cls).before args s = true) (hini : (Cond.initialized cls).before args s = true) (hstr : vk_R own is text sa s) (hat : ∀ w ∈ vx_atS own ic cls names, w.before args s = true)
    (hgood : ∀ w ∈ Cond.classLink own ik cls :: Cond.initialized cls :: vx_atS own ic cls names, vx_ot w = true)
    (hU : vx_Zq Bundle.tN "UNASSIGNED_STACK" Bundle.steD A s s.heap) (hN : vx_Zq Bundle.tN "SUPPRESSED_SENTINEL" Bundle.listD A s s.heap) (hS : va_S A s.heap H locs) (hsize : ls.size = c.maxLocals)
    (d0 : decode cc pc = .ok (.new ik, 3)) (d3 : decode cc (pc + 3) = .ok (.dup, 1)) (d4 : decode cc (pc + 4) = .ok (.ldc is, 2)) (d6 : decode cc (pc + 6) = .ok (.invokespecial ic, 3)) (d9 : decode cc (pc + 9) = .ok (.athrow, 1))
    (hout : ∀ x ∈ c.exceptionTable.toList, covers x (pc + 9) = false)
    (hRframes : names.length + 3 < R.frames) (hRlocals : (rest.map fun v => v.category).sum + (13 * (names.length + 1) + 43) ≤ R.locals) (hRcells : cells + 1 ≤ R.cells) (hRslots : slots + 6 ≤ R.slots) (hlocks : meth.locks = false)
    (hx : ∀ t : State, s.vm.Alike t.vm → H.size ≤ t.heap.size → (∀ q : Nat, q < H.size → t.heap[q]? = H[q]?) → XC cls s t)
    (hf : ∀ z ∈ locs, free z.base) (hc : cells + 1 ≤ mc) (hs : slots + 6 ≤ ms) :
    W p l e R s m args below meth c H locs cells slots (vx_MQ below Qc XC args s mc ms free) (F0 m pc ls rest) := by
  intro T hT X
  have htr : e.platform.stackTraces = false := (show e.platform.stackTraces = l.stackTraces by rw [X.admits.platform]).trans hl
  have Y := vx_rebase X (R' := { frames := R.frames, locals := R.locals, cells := 1, slots := 6 }) (Nat.le_refl _) (Nat.le_refl _) hRcells hRslots
  obtain ⟨s', hA⟩ : ∃ z, z = (T.setVm s.vm).setFrames (.invoking m args :: below) := ⟨_, rfl⟩
  rw [← hA] at Y
  have hvm : s'.vm = s.vm := by rw [hA]; rfl
  have hhp : s'.heap = H := by rw [hA]; exact hT
  have hW0 : s.WarmedH s'.vm := by rw [hvm]; exact State.WarmedH.refl s
  have hat' : ∀ w ∈ vx_atS own ic cls names, w.before args s' = true := fun w hw => vx_ot_at hW0 hvm.symm (hgood w (List.mem_cons_of_mem _ (List.mem_cons_of_mem _ hw))) (hat w hw)
  have hk' : (Cond.classLink own ik cls).before args s' = true := vx_ot_at hW0 hvm.symm (hgood _ List.mem_cons_self) hk
  have hini' : (Cond.initialized cls).before args s' = true := vx_ot_at hW0 hvm.symm (hgood _ (List.mem_cons_of_mem _ List.mem_cons_self)) hini
  have hU' : vx_Zq Bundle.tN "UNASSIGNED_STACK" Bundle.steD A s' s'.heap := by rw [hhp]; exact vx_Zq.moved hW0.alike (hU.kept hS.2.1)
  have hN' : vx_Zq Bundle.tN "SUPPRESSED_SENTINEL" Bundle.listD A s' s'.heap := by rw [hhp]; exact vx_Zq.moved hW0.alike (hN.kept hS.2.1)
  have h : ∀ w ∈ Bundle.ownAtoms own ic cls names, w.before args s' = true := vx_own hat' (vx_isRefq hU'.1) (vx_isRefq hN'.1) hU'.2.word hN'.2.word
  have hown' : s'.vm.findClass own = some m.cls := by rw [hvm]; exact hown
  have hins : (Cond.instantiable cls 6).before args s' = true := h _ (by simp [Bundle.ownAtoms])
  obtain ⟨vm₁, cX, kX, hfX, hkX, -, -, X₁, st1⟩ := Y.newCold hexec (own := own) (C := cls) (index := ik) (n := 6) hown' hk' hins hini'
    (g := F0 m pc ls rest) rfl (by rw [hb]; exact d0) (Nat.le_refl _) (Nat.le_refl _)
  generalize hT1 : (T.setVm vm₁).pushCell { cls := cX, slots := kX.instanceTypes.map defaultValue, vm := .none } = T1 at X₁ st1
  have hcat : (Value.ref T.heap.size).category = 1 := rfl
  have hcellA : T1.heap[T.heap.size]? = some (freshCell cX kX) := by rw [← hT1]; exact State.heap_pushCell_size _ _
  have d3' : decode c.code (pc + 3) = .ok (.dup, 1) := by rw [hb]; exact d3
  have d4' : decode c.code (pc + 4) = .ok (.ldc is, 2) := by rw [hb]; exact d4
  have hstr' : vk_R own is text sa s' := vk_R.warm hW0 hstr
  obtain ⟨U, hsteps, hrun, hend, hW, hsame, ce, hce, hO⟩ := X₁.ctorThrowS hexec htr (own := own) (cls := cls) (names := names) (ic := ic) hown' hcls hnames h (fun x hx => nomatch hx) hfX hkX hcellA (by rw [hhp, hT]; exact Nat.le_refl _) (msg := .ref sa) rfl
    (g := { method := m, pc := pc + 6, locals := ls, stack := .ref sa :: .ref T.heap.size :: .ref T.heap.size :: rest, locked := none }) rfl hsize rfl rfl (rest := rest) rfl
    (by rw [hb]; exact d6) (by rw [hb]; exact d9) hout hRframes (by simp only [List.map_cons, List.sum_cons, hcat]; omega) hlocks
  obtain ⟨f1, f2⟩ := vx_frame hsame
  rw [hhp] at f1 f2
  have hWs : s.WarmedH U.vm := State.WarmedH.trans hW0 hW
  have hcl : s.vm.findClass cls = some ce.cls := by
    have h9 := hO.cls
    rw [hvm] at h9
    exact h9
  have hall : s.sameButNew ({ U with vm := s.vm } : State) locs mc ms := by
    subst hA
    obtain ⟨e1, e2⟩ := hsame
    rw [State.setFrames_setFrames] at e1
    have h2 : (T.setVm s.vm).sameButNew ({ U with vm := s.vm } : State) [] (0 + 1) (0 + 6) := ⟨e1, e2⟩
    have h3 := X.same.trans h2
    rw [List.append_nil] at h3
    exact h3.mono hc hs
  refine ⟨U, ?_, .threw T.heap.size, hrun, hend, Or.inr ⟨T.heap.size, rfl, cls, ce, locs, hx U hWs.alike f1 (fun q hq => f2 q hq (fun z hz => nomatch hz)), hce, hO.vm, hcl, hWs, hall, hf⟩⟩
  refine st1 _ ?_
  show Steps p.tables e below (T1.setTop { method := m, pc := pc + 3, locals := ls, stack := .ref T.heap.size :: rest, locked := none }) _
  jvm_step X₁.here [X₁.here.top, hexec, d3', Value.category]
  exact X₁.ldcString hexec (own := own) (text := text) (index := is) (a := sa) hown' hstr'.1 hstr'.2
    (g := { method := m, pc := pc + 4, locals := ls, stack := .ref T.heap.size :: .ref T.heap.size :: rest, locked := none }) rfl d4' _ hsteps
/-- 'throw new E("text")', the text by a wide index -/
theorem vx_throwSW {cc : ByteArray} {pc : Nat} (hexec : p.tables.exec = Jvm.exec) (hb : c.code = cc) (hl : l.stackTraces = false) {own cls text : String} {names : List String} {ik is ic mc ms sa : Nat} {A : Nat → Prop}
    (hown : s.vm.findClass own = some m.cls) (hcls : Bundle.fit cls = true) (hnames : ∀ n ∈ names, Bundle.fit n = true)
    (hk : (Cond.classLink own ik cls).before args s = true) (hini : (Cond.initialized cls).before args s = true) (hstr : vk_R own is text sa s) (hat : ∀ w ∈ vx_atS own ic cls names, w.before args s = true)
    (hgood : ∀ w ∈ Cond.classLink own ik cls :: Cond.initialized cls :: vx_atS own ic cls names, vx_ot w = true)
    (hU : vx_Zq Bundle.tN "UNASSIGNED_STACK" Bundle.steD A s s.heap) (hN : vx_Zq Bundle.tN "SUPPRESSED_SENTINEL" Bundle.listD A s s.heap) (hS : va_S A s.heap H locs) (hsize : ls.size = c.maxLocals)
    (d0 : decode cc pc = .ok (.new ik, 3)) (d3 : decode cc (pc + 3) = .ok (.dup, 1)) (d4 : decode cc (pc + 4) = .ok (.ldc_w is, 3)) (d7 : decode cc (pc + 7) = .ok (.invokespecial ic, 3)) (d10 : decode cc (pc + 10) = .ok (.athrow, 1))
    (hout : ∀ x ∈ c.exceptionTable.toList, covers x (pc + 10) = false)
    (hRframes : names.length + 3 < R.frames) (hRlocals : (rest.map fun v => v.category).sum + (13 * (names.length + 1) + 43) ≤ R.locals) (hRcells : cells + 1 ≤ R.cells) (hRslots : slots + 6 ≤ R.slots) (hlocks : meth.locks = false)
    (hx : ∀ t : State, s.vm.Alike t.vm → H.size ≤ t.heap.size → (∀ q : Nat, q < H.size → t.heap[q]? = H[q]?) → XC cls s t)
    (hf : ∀ z ∈ locs, free z.base) (hc : cells + 1 ≤ mc) (hs : slots + 6 ≤ ms) :
    W p l e R s m args below meth c H locs cells slots (vx_MQ below Qc XC args s mc ms free) (F0 m pc ls rest) := by
  intro T hT X
  have htr : e.platform.stackTraces = false := (show e.platform.stackTraces = l.stackTraces by rw [X.admits.platform]).trans hl
  have Y := vx_rebase X (R' := { frames := R.frames, locals := R.locals, cells := 1, slots := 6 }) (Nat.le_refl _) (Nat.le_refl _) hRcells hRslots
  obtain ⟨s', hA⟩ : ∃ z, z = (T.setVm s.vm).setFrames (.invoking m args :: below) := ⟨_, rfl⟩
  rw [← hA] at Y
  have hvm : s'.vm = s.vm := by rw [hA]; rfl
  have hhp : s'.heap = H := by rw [hA]; exact hT
  have hW0 : s.WarmedH s'.vm := by rw [hvm]; exact State.WarmedH.refl s
  have hat' : ∀ w ∈ vx_atS own ic cls names, w.before args s' = true := fun w hw => vx_ot_at hW0 hvm.symm (hgood w (List.mem_cons_of_mem _ (List.mem_cons_of_mem _ hw))) (hat w hw)
  have hk' : (Cond.classLink own ik cls).before args s' = true := vx_ot_at hW0 hvm.symm (hgood _ List.mem_cons_self) hk
  have hini' : (Cond.initialized cls).before args s' = true := vx_ot_at hW0 hvm.symm (hgood _ (List.mem_cons_of_mem _ List.mem_cons_self)) hini
  have hU' : vx_Zq Bundle.tN "UNASSIGNED_STACK" Bundle.steD A s' s'.heap := by rw [hhp]; exact vx_Zq.moved hW0.alike (hU.kept hS.2.1)
  have hN' : vx_Zq Bundle.tN "SUPPRESSED_SENTINEL" Bundle.listD A s' s'.heap := by rw [hhp]; exact vx_Zq.moved hW0.alike (hN.kept hS.2.1)
  have h : ∀ w ∈ Bundle.ownAtoms own ic cls names, w.before args s' = true := vx_own hat' (vx_isRefq hU'.1) (vx_isRefq hN'.1) hU'.2.word hN'.2.word
  have hown' : s'.vm.findClass own = some m.cls := by rw [hvm]; exact hown
  have hins : (Cond.instantiable cls 6).before args s' = true := h _ (by simp [Bundle.ownAtoms])
  obtain ⟨vm₁, cX, kX, hfX, hkX, -, -, X₁, st1⟩ := Y.newCold hexec (own := own) (C := cls) (index := ik) (n := 6) hown' hk' hins hini'
    (g := F0 m pc ls rest) rfl (by rw [hb]; exact d0) (Nat.le_refl _) (Nat.le_refl _)
  generalize hT1 : (T.setVm vm₁).pushCell { cls := cX, slots := kX.instanceTypes.map defaultValue, vm := .none } = T1 at X₁ st1
  have hcat : (Value.ref T.heap.size).category = 1 := rfl
  have hcellA : T1.heap[T.heap.size]? = some (freshCell cX kX) := by rw [← hT1]; exact State.heap_pushCell_size _ _
  have d3' : decode c.code (pc + 3) = .ok (.dup, 1) := by rw [hb]; exact d3
  have d4' : decode c.code (pc + 4) = .ok (.ldc_w is, 3) := by rw [hb]; exact d4
  have hstr' : vk_R own is text sa s' := vk_R.warm hW0 hstr
  obtain ⟨U, hsteps, hrun, hend, hW, hsame, ce, hce, hO⟩ := X₁.ctorThrowS hexec htr (own := own) (cls := cls) (names := names) (ic := ic) hown' hcls hnames h (fun x hx => nomatch hx) hfX hkX hcellA (by rw [hhp, hT]; exact Nat.le_refl _) (msg := .ref sa) rfl
    (g := { method := m, pc := pc + 7, locals := ls, stack := .ref sa :: .ref T.heap.size :: .ref T.heap.size :: rest, locked := none }) rfl hsize rfl rfl (rest := rest) rfl
    (by rw [hb]; exact d7) (by rw [hb]; exact d10) hout hRframes (by simp only [List.map_cons, List.sum_cons, hcat]; omega) hlocks
  obtain ⟨f1, f2⟩ := vx_frame hsame
  rw [hhp] at f1 f2
  have hWs : s.WarmedH U.vm := State.WarmedH.trans hW0 hW
  have hcl : s.vm.findClass cls = some ce.cls := by
    have h9 := hO.cls
    rw [hvm] at h9
    exact h9
  have hall : s.sameButNew ({ U with vm := s.vm } : State) locs mc ms := by
    subst hA
    obtain ⟨e1, e2⟩ := hsame
    rw [State.setFrames_setFrames] at e1
    have h2 : (T.setVm s.vm).sameButNew ({ U with vm := s.vm } : State) [] (0 + 1) (0 + 6) := ⟨e1, e2⟩
    have h3 := X.same.trans h2
    rw [List.append_nil] at h3
    exact h3.mono hc hs
  refine ⟨U, ?_, .threw T.heap.size, hrun, hend, Or.inr ⟨T.heap.size, rfl, cls, ce, locs, hx U hWs.alike f1 (fun q hq => f2 q hq (fun z hz => nomatch hz)), hce, hO.vm, hcl, hWs, hall, hf⟩⟩
  refine st1 _ ?_
  show Steps p.tables e below (T1.setTop { method := m, pc := pc + 3, locals := ls, stack := .ref T.heap.size :: rest, locked := none }) _
  jvm_step X₁.here [X₁.here.top, hexec, d3', Value.category]
  exact X₁.ldcStringW hexec (own := own) (text := text) (index := is) (a := sa) hown' hstr'.1 hstr'.2
    (g := { method := m, pc := pc + 4, locals := ls, stack := .ref T.heap.size :: .ref T.heap.size :: rest, locked := none }) rfl d4' _ hsteps
end Ends
section Bodies
variable {l : Launch}
theorem vx_ofW {y : MethodName} {ws ws' : List Cond} {rm : Room} {Pc : Array Value → State → Prop} {Qc : Array Value → State → Outcome → State → Prop} {XC : String → State → State → Prop} {mc ms : Nat} {free : Addr → Prop} {cc : ByteArray} {maxL : Nat} {ret : Option FieldType}
    (hy : plainName y.cls = true) (hw : ws = Cond.code y cc maxL ret :: ws')
    (body : ∀ p e s m args below meth c s₁, BodyLoose p l y (headSpec ws rm) cc maxL ret e s m args below meth c s₁ → c.maxLocals = maxL → (∀ x ∈ c.exceptionTable.toList, False) → Pc args s →
      W p l e (headSpec ws rm).room s m args below meth c s.heap [] 0 0 (vx_MQ below Qc XC args s mc ms free) (entryFrame m args maxL)) : vx_Met l y ws rm Pc Qc XC mc ms free := by
  refine MetFree.of_bodyS (code := cc) (maxLocals := maxL) (ret := ret) hy ?_ ?_
  · intro args s m h hn
    obtain ⟨meth, c, h1, h2, h3, h4, h5, h6, -, -⟩ := Cond.code_spec hn (atoms_spec (ws := ws) h _ (by rw [hw]; exact List.mem_cons_self))
    exact ⟨meth, c, h1, h2, h3, h4, h5, h6⟩
  · intro p e s m args below meth c s₁ B hml hP _
    have hh0 : s₁.heap = s.heap := by rw [B.state]; rfl
    have ht : ∀ x ∈ c.exceptionTable.toList, False := by
      obtain ⟨meth9, c9, h1, h2, -, -, -, -, h7, -⟩ := Cond.code_spec B.named (atoms_spec (ws := ws) B.pre _ (by rw [hw]; exact List.mem_cons_self))
      cases Option.some.inj (h1.symm.trans B.method)
      cases Option.some.inj (h2.symm.trans (Stand.of_body B).code)
      intro x hx
      rw [Array.isEmpty_iff.mp h7] at hx
      cases hx
    obtain ⟨t, a1, o, b1, b2, b3⟩ := body p e s m args below meth c s₁ B hml ht hP s₁ hh0 (Stand.of_body B)
    exact ⟨t, o, a1, b1, b2, b3⟩
/-- the table of a body with handlers -/
theorem vx_table {p : Program} {x y : MethodName} {S : Spec} {cc bytes : ByteArray} {maxL maxL' : Nat} {ret ret' : Option FieldType} {e : Env} {s s₁ : State} {m : MethodId} {args : Array Value} {below : List Frame} {meth : Method} {c : Code} {hh : List (Nat × Nat × Nat × Nat)}
    (B : BodyLoose p l y S cc maxL ret e s m args below meth c s₁) (h : (Cond.codeWith y bytes maxL' ret' hh).before args s = true) : c.exceptionTable.toList = tableOf hh := by
  obtain ⟨m9, meth9, c9, hn9, h1, h2, -, -, h6, -⟩ := Cond.codeWith_spec h
  cases Option.some.inj (hn9.symm.trans B.named)
  cases Option.some.inj (h1.symm.trans B.method)
  cases Option.some.inj (h2.symm.trans (Stand.of_body B).code)
  rw [← h6, table_eq]
end Bodies
end VXA
/-! ===== END ===== -/
/-! ===== BEGIN a static call of a method with an exception table ===== -/
section VXS
variable {p : Program} {l : Launch} {e : Env} {R : Room} {s : State} {m : MethodId} {args : Array Value} {below : List Frame} {meth : Method} {c : Code} {T : State} {H : Heap} {locs : List Loc} {cells slots : Nat}
abbrev vx_CSW (R : Room) (s : State) (args : Array Value) (own : String) (index : Nat) (y : MethodName) (bytes : ByteArray) (maxL : Nat) (ret : Option FieldType) (hh : List (Nat × Nat × Nat × Nat)) (ws : List Cond) (rm : Room) (mc ms n : Nat) : Prop :=
  (rm.cells = mc ∧ rm.slots = ms ∧ rm.frames + 1 ≤ R.frames ∧ 8 + (maxL + 11) + rm.locals ≤ R.locals ∧ (∀ w ∈ ws, ∀ (a' : Array Value) (U : State), s.WarmedH U.vm → w.before a' U = true) ∧ Cond.codeWith y bytes maxL ret hh ∈ ws) ∧
  (Cond.codeWith y bytes maxL ret hh).before args s = true ∧ (Cond.initialized y.cls).before args s = true ∧ (y.cls ≠ "java/lang/invoke/MethodHandle" ∧ y.cls ≠ "java/lang/invoke/VarHandle") ∧
  (∀ sig, parseMethodDescriptor y.desc = some sig → n = sig.parameters.length) ∧ (Cond.methodLink own index y).before args s = true ∧ (Cond.static y).before args s = true
theorem vx_cwSW {own : String} {index maxL mc ms : Nat} {y : MethodName} {bytes : ByteArray} {ret : Option FieldType} {hh : List (Nat × Nat × Nat × Nat)} {Ts ws ws' : List Cond} {rm : Room} (n : Nat) (ht : ∀ w ∈ Ts, w.before args s = true) (hT : GoodIn Ts (va_wsS own index y ws)) (hw : ws = Cond.codeWith y bytes maxL ret hh :: ws') (hrc : rm.cells = mc) (hrs : rm.slots = ms)
    (hd : y.cls ≠ "java/lang/invoke/MethodHandle" ∧ y.cls ≠ "java/lang/invoke/VarHandle" ∧ (parseMethodDescriptor y.desc).map (fun d => d.parameters.length) = some n) (hR : rm.frames + 1 ≤ R.frames ∧ 8 + (maxL + 11) + rm.locals ≤ R.locals) :
    vx_CSW R s args own index y bytes maxL ret hh ws rm mc ms n := by
  have ok : ∀ w ∈ va_wsS own index y ws, w.before args s = true := fun w h => ht w (hT w h).1
  have hG : GoodIn Ts ws := fun w h => hT w (by unfold va_wsS; exact List.mem_append_right _ h)
  have hc : Cond.codeWith y bytes maxL ret hh ∈ ws := by rw [hw]; exact List.mem_cons_self
  refine ⟨⟨hrc, hrs, hR.1, hR.2, pay_in ht hG, hc⟩, ht _ (hG _ hc).1, ok _ (by simp [va_wsS]), ⟨hd.1, hd.2.1⟩, fun sig h => ?_, ok _ (by simp [va_wsS]), ok _ (by simp [va_wsS])⟩
  have h2 := hd.2.2
  rw [h] at h2
  exact (Option.some.inj h2).symm
theorem vx_callSW (X : Stand p l e R s m args below meth c T locs cells slots) (hexec : p.tables.exec = Jvm.exec) {own : String} {index : Nat} {y : MethodName} {bytes : ByteArray} {maxL : Nat} {ret : Option FieldType} {hh : List (Nat × Nat × Nat × Nat)}
    (hown : s.vm.findClass own = some m.cls) (hlink : (Cond.methodLink own index y).before args s = true) (hstat : (Cond.static y).before args s = true) (hinit : (Cond.initialized y.cls).before args s = true)
    (hcode : (Cond.codeWith y bytes maxL ret hh).before args s = true) (hy : y.cls ≠ "java/lang/invoke/MethodHandle" ∧ y.cls ≠ "java/lang/invoke/VarHandle")
    {W9 : Nat} {Pre : Pt → Array Value → Prop} {Post : Pt → Array Value → Option Value → Pt → Prop} (hK : Back l R p e below s args y 3 W9 Pre Post)
    {g : JFrame} (hg : g.method = m) (hsize : g.locals.size = c.maxLocals) {argsL rest : List Value} (hlen : ∀ sig, parseMethodDescriptor y.desc = some sig → argsL.length = sig.parameters.length)
    (hstack : g.stack = argsL.reverse ++ rest) (hW : 2 * g.monitorRoom + (rest.map fun v => v.category).sum ≤ W9) (hdg : decode c.code g.pc = .ok (.invokestatic index, 3))
    (hpre : ∀ vm₁, s.WarmedH vm₁ → Pre ⟨T.setVm vm₁, locs, cells, slots⟩ argsL.toArray) :
    ∃ (v : Option Value) (vm₁ : Vm) (B : Pt), s.WarmedH vm₁ ∧ Stand p l e R s m args below meth c B.U B.locs B.cells B.slots ∧ Post ⟨T.setVm vm₁, locs, cells, slots⟩ argsL.toArray v B ∧
      ∀ target, Steps p.tables e below (B.U.setTop { g with pc := g.pc + 3, stack := v.toList ++ rest }) target → Steps p.tables e below (T.setTop g) target := by
  obtain ⟨mk, methM, cM, hnamed, hmethM, -, -, -, -, -, -, hsigM⟩ := Cond.codeWith_spec hcode
  have hstatic : methM.isStatic = true := Cond.static_spec hnamed hmethM hstat
  obtain ⟨kP, hkP, -⟩ := className_of_methodNamed hnamed
  have hinitP : kP.init = .initialized := Cond.initialized_spec (findClass_of_methodNamed hnamed) hkP hinit
  obtain ⟨vm₁, X₁, hstep₁⟩ := X.invokestatic hexec hown hlink hnamed hmethM hstatic hkP hinitP hy (g := g) hg (argsL := argsL) (rest := rest) (hlen _ hsigM) hstack hdg
  obtain ⟨v, B, X', hpost, hsteps⟩ := hK m meth c ⟨T.setVm vm₁, locs, cells, slots⟩ { g with stack := rest } (.invokestatic index) mk argsL.toArray X₁ hg hsize hdg hW (X₁.named hnamed) (hpre vm₁ X₁.warmed)
  exact ⟨v, vm₁, B, X₁.warmed, X', hpost, fun target h => hstep₁ _ fun acts => by rw [doInvoke_state]; exact hsteps.trans h⟩
theorem vx_runSW {y : MethodName} {bytes cc : ByteArray} {maxL nL mc ms n index : Nat} {ret : Option FieldType} {hh : List (Nat × Nat × Nat × Nat)} {ws : List Cond} {rm : Room} {Pc : Array Value → State → Prop} {Qc : Array Value → State → Outcome → State → Prop} {free : Addr → Prop} {Ts : List Cond} {own : String} {As rest : List Value} {g : JFrame}
    (S : CallFix p m c cc nL s args Ts own) (hM : Met l y ws rm Pc Qc mc ms free) (cw : vx_CSW R s args own index y bytes maxL ret hh ws rm mc ms n) (hp : PreS s H Pc As)
    (hg : g.method = m) (hn : As.length = n) (hsize : g.locals.size = nL) (hstack : g.stack = As.reverse ++ rest) (hW : 2 * g.monitorRoom + (rest.map fun v => v.category).sum ≤ 8) (hdg : decode cc g.pc = .ok (.invokestatic index, 3)) (hf : cells + mc ≤ R.cells ∧ slots + ms ≤ R.slots) :
    va_Run p l e R s m args below meth c H locs cells slots mc ms g rest (Qc As.toArray) (free) := by
  obtain ⟨⟨hrc, hrs, hfr, hlo, hws, hcw⟩, hcode, hini, hy, hlen, hl, hstt⟩ := cw
  have hK : Back l R p e below s args y 3 8 (PreOf R mc ms Pc) (PostOf Qc mc ms free) := va_backW (hh := hh) (bytes := bytes) (maxL := maxL) (ret := ret) hM hp.1 hrc hrs hfr hlo hws hcw (fun a' U hW => word_at hW (Or.inl (by first | rfl | simp [Cond.onTables, Cond.keeps, Cond.steady])) hini)
  obtain ⟨hx, hb, hml, ho, -⟩ := S
  intro T hT X
  obtain ⟨v, vm₁, ⟨U', l2, c2, s2⟩, hW₁, X', ⟨g', mk, t, L, e1, e2, hq, h1, hL, h2, h3⟩, st⟩ := vx_callSW X hx (hh := hh) (bytes := bytes) (maxL := maxL) (ret := ret) ho hl hstt hini hcode hy hK hg (hsize.trans hml.symm) (argsL := As) (rest := rest) (fun sig h => hn.trans (hlen sig h)) hstack hW (by rw [hb]; exact hdg)
    (fun vm₁ hW₁ => ⟨hf.1, hf.2, hp.2 (T.setVm vm₁) hT hW₁⟩)
  dsimp only [Pt.U, Pt.locs, Pt.cells, Pt.slots] at X' e1 e2 h1 h2 h3 st
  subst h1; subst h2; subst h3
  exact ⟨v, (T.setVm vm₁).calling g' mk As.toArray, t, U', L, hT, X', hL, e1, e2, hq, st⟩
/-- not caught here, past rows that name other classes: it goes on to the caller -/
theorem vx_outP {p : Program} {l : Launch} {e : Env} {R : Room} {s : State} {m : MethodId} {args : Array Value} {below : List Frame} {meth : Method} {c : Code} {H : Heap} {locs : List Loc} {cells slots : Nat} {free : Addr → Prop} {ls : Array Slot} {rest : List Value} {Qc : Array Value → State → Outcome → State → Prop} {XC : String → State → State → Prop}
    {pc : Nat} {own E : String} {ce : Cell} {q : Addr} {mc ms : Nat} (hown : s.vm.findClass own = some m.cls) (hlocks : meth.locks = false)
    (hpass : ∀ z ∈ c.exceptionTable.toList, covers z pc = false ∨ (z.catchType ≠ 0 ∧ ∃ nm : String, (Cond.classLink own z.catchType nm).before args s = true ∧ va_Nc E nm s)) (hcell : H[q]? = some ce) (hv : ce.vm = .none) (hcl : s.vm.findClass E = some ce.cls)
    (hx : ∀ t : State, t.heap = H → s.vm.Alike t.vm → XC E s t) (hf : ∀ z ∈ locs, free z.base) (hc : cells ≤ mc) (hs : slots ≤ ms) :
    vx_W p l e R s m args below meth c H locs cells slots (vx_MQ below Qc XC args s mc ms free) (F0 m pc ls rest) q := by
  intro T hT X
  have hpl : e.platform.magicAccessors = ({} : Platform).magicAccessors := by rw [X.admits.platform]
  obtain ⟨vm', hW', X', st⟩ := X.outThrough hlocks q (g := F0 m pc ls rest) rfl rfl rfl (cell := ce) (by rw [hT]; exact hcell) (by rw [hv]; rfl)
    (by obtain ⟨k9, h9, -⟩ := Vm.findClass_spec hcl; exact ⟨k9, h9⟩) (fun z hz => by
      rcases hpass z hz with h | ⟨hz0, nm, hl1, hn1⟩
      · exact Or.inl h
      · obtain ⟨c6, hc6, hcl6⟩ := Cond.classLink_spec hown hl1 e.platform hpl
        obtain ⟨a8, b8, h1, h2, h3⟩ := hn1
        cases Option.some.inj (h1.symm.trans hcl)
        cases Option.some.inj (h2.symm.trans hc6)
        exact Or.inr ⟨hz0, _, hcl6, h3⟩)
  obtain ⟨g₀, hfr⟩ := X'.frames_eq
  have hcell9 : ((T.setVm vm').setFrames (.throwing q :: below)).heap[q]? = some ce := by
    show T.heap[q]? = some ce
    rw [hT]; exact hcell
  have hend : Ended ((T.setVm vm').setFrames (.throwing q :: below)) below (.threw q) := State.frames_setFrames _ (State.cur_lt_of_frames hfr)
  refine ⟨(T.setVm vm').setFrames (.throwing q :: below), ?_, .threw q, X'.here.running, hend, Or.inr ⟨q, rfl, E, ce, locs, hx _ hT (X'.ends _).1.alike, hcell9, hv, hcl, (X'.ends _).1, (X'.ends _).2.mono hc hs, hf⟩⟩
  rw [X.pushThrowing_eq]
  exact st
/-- a thing of a world lies in the heap -/
theorem vx_lt {D : va_G} {cl : List vw_C} {ws : va_W} {H1 : Heap} (h : va_P D cl ws H1) {k : Nat} {q : Nat × va_E} (hk : ws[k]? = some q) : q.1 < H1.size := (h k q hk).lt
end VXS
/-! ===== END ===== -/
/-! ===== BEGIN methods with a table of their own: called by a name, returning or throwing ===== -/
section VXH
/-! vx_backW, vx_callVX, vx_callSX, vx_callVW, vx_runVW, vx_runVX, vx_runSX, vx_ofWH follow the same proofs as their sisters above (Free/Laws.lean, Shelf42/LK1.lean); vx_outP calls Shelf42/NT130.lean (outThrough). -/
section
variable {l : Launch} {R : Room} {p : Program} {e : Env} {below : List Frame} {s : State} {sargs : Array Value} {y : MethodName} {len W9 : Nat}
theorem vx_backW {ws : List Cond} {rm : Room} {Pc : Array Value → State → Prop} {Qc : Array Value → State → Outcome → State → Prop} {XC : String → State → State → Prop} {mc ms : Nat} {free : Addr → Prop} {bytes : ByteArray} {maxL : Nat} {ret : Option FieldType} {hh : List (Nat × Nat × Nat × Nat)}
    (hM : vx_Met l y ws rm Pc Qc XC mc ms free) (hblind : FrameBlind Pc) (hrc : rm.cells = mc) (hrs : rm.slots = ms)
    (hframes : rm.frames + 1 ≤ R.frames) (hlocals : W9 + (maxL + 11) + rm.locals ≤ R.locals)
    (hws : ∀ w ∈ ws, ∀ a' U, s.WarmedH U.vm → w.before a' U = true) (hcode : Cond.codeWith y bytes maxL ret hh ∈ ws) (hinit : ∀ a' U, s.WarmedH U.vm → (Cond.initialized y.cls).before a' U = true) :
    vx_Back l R p e below s sargs y len W9 (PreOf R mc ms Pc) (PostOf Qc mc ms free) (vx_Post XC mc ms free) := by
  intro m meth c A g ig mk a X hg hsize hdg hW hn hp
  have h1 : (headSpec ws rm).pre.before a A.U = true := atoms_intro fun w hw => hws w hw _ _ X.warmed
  have h2 : (Cond.codeWith y bytes maxL ret hh).before a A.U = true := hws _ hcode _ _ X.warmed
  have h3 : (Cond.initialized y.cls).before a A.U = true := hinit _ _ X.warmed
  have h4 : A.cells + (headSpec ws rm).room.cells ≤ R.cells := by rw [show (headSpec ws rm).room.cells = mc from hrc]; exact hp.1
  have h5 : A.slots + (headSpec ws rm).room.slots ≤ R.slots := by rw [show (headSpec ws rm).room.slots = ms from hrs]; exact hp.2.1
  have hPc : Pc a (A.U.calling g mk a) := hblind _ _ _ _ hp.2.2
  obtain ⟨U, Ls, c0, s0⟩ := A
  dsimp only [Pt.U, Pt.locs, Pt.cells, Pt.slots] at h1 h2 h3 h4 h5 X hn hPc ⊢
  obtain ⟨m9, methY, cY, hn9, hmY, hcY, -, hlY, -⟩ := Cond.codeWith_spec h2
  cases Option.some.inj (hn9.symm.trans hn)
  obtain ⟨kY, hkY, -⟩ := className_of_methodNamed hn
  have hinitY : kY.init = .initialized := Cond.initialized_spec (findClass_of_methodNamed hn) hkY h3
  have h : At U g.method c below := by rw [hg]; exact X.here
  have hlocals9 : W9 + (maxL + 11) + (headSpec ws rm).room.locals ≤ R.locals := hlocals
  have happ : (headSpec ws rm).appliesLoose y e.platform (U.calling g mk a) = true :=
    Spec.appliesLoose_calling (g := g) h hdg hn hkY hinitY
      (X.room_calling (g := g) (R' := (headSpec ws rm).room) hsize hmY hcY hframes (by rw [hlY]; omega) h4 h5) h1
  obtain ⟨mid, hmid⟩ := h.above
  have hfr : (U.setTop g).frames = (.java g :: mid) ++ below := by rw [State.frames_setTop' g h.top, hmid]; rfl
  obtain ⟨o, s₂, hsteps, -, hend, hq⟩ := Steps.callFree hM p X.admits X.cas X.clock (acts := []) hfr happ hPc trivial
  have hq' : vx_Q Qc XC mc ms free a (U.calling g mk a) o s₂ := hq
  rw [State.frames_setTop' g h.top] at hend
  obtain ⟨g₀, hg0⟩ := Option.isSome_iff_exists.mp h.top
  obtain ⟨r, hr⟩ := State.topJava?_eq_some.mp hg0
  have hr' : (({ U with heap := s₂.heap, slotsUsed := s₂.slotsUsed } : State).setVm s₂.vm).frames = .java g₀ :: r := hr
  rcases hq' with ⟨hqc, L, hfe, hL⟩ | ⟨q, rfl, E, ce, L, hx, hce, hcv, hcl, hW₂, hsm, hL⟩
  · obtain ⟨⟨v, rfl⟩, hW₂, e2, q2, q3, q4, q5, q6⟩ := id hfe
    have e3 : s₂ = ({ (U.calling g mk a).setFrames s₂.frames with heap := s₂.heap, slotsUsed := s₂.slotsUsed } : State).setVm s₂.vm := by
      have : s₂ = ({ s₂ with vm := (U.calling g mk a).vm } : State).setVm s₂.vm := rfl
      rw [e2] at this
      exact this
    obtain ⟨c₂, i₂, len₂, hc₂, hd₂, hf₂⟩ := hend
    have hW' : U.WarmedH s₂.vm := hW₂
    have hcc : c₂ = c := by
      have h1 : s₂.code? g.method = U.code? g.method := by
        rw [State.code?_eq, State.code?_eq, hW'.alike.method?]
      exact Option.some.inj (hc₂.symm.trans (h1.trans h.code))
    subst hcc
    have hlen : len₂ = len := by rw [hdg] at hd₂; cases hd₂; rfl
    subst hlen
    have hs₂ : s₂ = (({ U with heap := s₂.heap, slotsUsed := s₂.slotsUsed } : State).setVm s₂.vm).setTop { g with pc := g.pc + len₂, stack := v.toList ++ g.stack } := by
      refine e3.trans ?_
      rw [hf₂, State.calling_eq h.top, State.setFrames_setFrames, State.setTop_of_frames _ hr', hr]
      rfl
    have hsame : U.sameButNew ({ U with heap := s₂.heap, slotsUsed := s₂.slotsUsed } : State) L mc ms := by
      refine ⟨?_, q2, q3, q4, q5, q6⟩
      obtain ⟨t, ht, -⟩ := State.frames_cons hr
      show ({ U with heap := s₂.heap, slotsUsed := s₂.slotsUsed } : State) = { U.setFrames U.frames with heap := s₂.heap, slotsUsed := s₂.slotsUsed }
      rw [State.setFrames_self ht]
    subst hg
    refine Or.inl ⟨v, ⟨(({ U with heap := s₂.heap, slotsUsed := s₂.slotsUsed } : State).setVm s₂.vm), Ls ++ L, c0 + mc, s0 + ms⟩,
      ⟨X.admits, X.cas, X.clock, X.frames, X.room, X.hears, X.method, X.code, (X.here.setHeapUsed s₂.heap s₂.slotsUsed).setVm hW'.alike, X.tail, State.WarmedH.trans X.warmed hW', X.limits, X.bytes, X.same.trans (hsame.setVm s.vm)⟩,
      ⟨g, mk, s₂, L, rfl, rfl, hqc, rfl, hL, rfl, rfl⟩, ?_⟩
    show Steps p.tables e below _ ((({ U with heap := s₂.heap, slotsUsed := s₂.slotsUsed } : State).setVm s₂.vm).setTop { g with pc := g.pc + len₂, stack := v.toList ++ g.stack })
    rw [← hs₂]
    exact hsteps
  · obtain ⟨e2, q2, q3, q4, q5, q6⟩ := id hsm
    have e3 : s₂ = ({ (U.calling g mk a).setFrames s₂.frames with heap := s₂.heap, slotsUsed := s₂.slotsUsed } : State).setVm s₂.vm := by
      have : s₂ = ({ s₂ with vm := (U.calling g mk a).vm } : State).setVm s₂.vm := rfl
      rw [e2] at this
      exact this
    have hf₂ : s₂.frames = .throwing q :: .java g :: U.frames.tail := hend
    have hW' : U.WarmedH s₂.vm := hW₂
    have hs₂ : s₂ = ((({ U with heap := s₂.heap, slotsUsed := s₂.slotsUsed } : State).setVm s₂.vm).setTop g).pushFrame (.throwing q) := by
      refine e3.trans ?_
      rw [hf₂, State.calling_eq h.top, State.setFrames_setFrames, State.pushFrame, State.frames_setTop _ hr', State.setTop_of_frames _ hr', State.setFrames_setFrames, hr]
      rfl
    have hsame : U.sameButNew ({ U with heap := s₂.heap, slotsUsed := s₂.slotsUsed } : State) L mc ms := by
      refine ⟨?_, q2, q3, q4, q5, q6⟩
      obtain ⟨t, ht, -⟩ := State.frames_cons hr
      show ({ U with heap := s₂.heap, slotsUsed := s₂.slotsUsed } : State) = { U.setFrames U.frames with heap := s₂.heap, slotsUsed := s₂.slotsUsed }
      rw [State.setFrames_self ht]
    subst hg
    refine Or.inr ⟨q, ⟨(({ U with heap := s₂.heap, slotsUsed := s₂.slotsUsed } : State).setVm s₂.vm), Ls ++ L, c0 + mc, s0 + ms⟩,
      ⟨X.admits, X.cas, X.clock, X.frames, X.room, X.hears, X.method, X.code, (X.here.setHeapUsed s₂.heap s₂.slotsUsed).setVm hW'.alike, X.tail, State.WarmedH.trans X.warmed hW', X.limits, X.bytes, X.same.trans (hsame.setVm s.vm)⟩,
      ⟨g, mk, s₂, L, E, ce, rfl, rfl, hx, hce, hcv, hcl, rfl, hL, rfl, rfl⟩, ?_⟩
    show Steps p.tables e below _ (((({ U with heap := s₂.heap, slotsUsed := s₂.slotsUsed } : State).setVm s₂.vm).setTop g).pushFrame (.throwing q))
    rw [← hs₂]
    exact hsteps
end
variable {p : Program} {l : Launch} {e : Env} {R : Room} {s : State} {m : MethodId} {args : Array Value} {below : List Frame} {meth : Method} {c : Code} {T : State} {H : Heap} {locs : List Loc} {cells slots : Nat}
theorem vx_callVX (X : Stand p l e R s m args below meth c T locs cells slots) (hexec : p.tables.exec = Jvm.exec) {own C : String} {index : Nat} {y : MethodName} {bytes : ByteArray} {maxL : Nat} {ret : Option FieldType} {hh : List (Nat × Nat × Nat × Nat)}
    (hown : s.vm.findClass own = some m.cls) (hlink : (Cond.methodLink own index y).before args s = true) (hinst : (Cond.instanceMethod y).before args s = true) (hsel : (Cond.selects C y y).before args s = true)
    (hcode : (Cond.codeWith y bytes maxL ret hh).before args s = true) (hy : y.cls ≠ "java/lang/invoke/MethodHandle" ∧ y.cls ≠ "java/lang/invoke/VarHandle")
    {W9 : Nat} {Pre : Pt → Array Value → Prop} {Post : Pt → Array Value → Option Value → Pt → Prop} {PostX : Pt → Array Value → Addr → Pt → Prop} (hK : vx_Back l R p e below s args y 3 W9 Pre Post PostX)
    {b : Addr} {cellB : Cell} (hcell : T.heap[b]? = some cellB) (hobj : cellB.vm.isStatics = false) (hcls : s.vm.findClass C = some cellB.cls)
    {g : JFrame} (hg : g.method = m) (hsize : g.locals.size = c.maxLocals) {argsL rest : List Value} (hlen : ∀ sig, parseMethodDescriptor y.desc = some sig → argsL.length = sig.parameters.length)
    (hstack : g.stack = argsL.reverse ++ .ref b :: rest) (hW : 2 * g.monitorRoom + (rest.map fun v => v.category).sum ≤ W9) (hdg : decode c.code g.pc = .ok (.invokevirtual index, 3))
    (hpre : ∀ vm₁, s.WarmedH vm₁ → Pre ⟨T.setVm vm₁, locs, cells, slots⟩ (Value.ref b :: argsL).toArray) :
    (∃ (v : Option Value) (vm₁ : Vm) (B : Pt), s.WarmedH vm₁ ∧ Stand p l e R s m args below meth c B.U B.locs B.cells B.slots ∧ Post ⟨T.setVm vm₁, locs, cells, slots⟩ (Value.ref b :: argsL).toArray v B ∧
      ∀ target, Steps p.tables e below (B.U.setTop { g with pc := g.pc + 3, stack := v.toList ++ rest }) target → Steps p.tables e below (T.setTop g) target) ∨
    (∃ (q : Addr) (vm₁ : Vm) (B : Pt), s.WarmedH vm₁ ∧ Stand p l e R s m args below meth c B.U B.locs B.cells B.slots ∧ PostX ⟨T.setVm vm₁, locs, cells, slots⟩ (Value.ref b :: argsL).toArray q B ∧
      Steps p.tables e below (T.setTop g) ((B.U.setTop { g with stack := rest }).pushFrame (.throwing q))) := by
  obtain ⟨mk, methM, hnamed, hmethM, hstM, habM⟩ := Cond.instanceMethod_spec hinst
  obtain ⟨m8, methM', cM, hn8, hmethM', -, -, -, -, -, -, hsigM⟩ := Cond.codeWith_spec hcode
  cases Option.some.inj (hn8.symm.trans hnamed)
  cases hmethM.symm.trans hmethM'
  obtain ⟨c2, r2, m2, q1, q2, q3, q4, kP, hkP, hkPi⟩ := Cond.selects_spec hsel
  cases hcls.symm.trans q1
  cases (State.methodFound?_of_named hnamed hy).symm.trans q2
  cases hnamed.symm.trans q3
  have hselP : selectMethod e.platform s.vm cellB.cls mk = .method mk := by rw [Launch.admits_selectMethod X.admits]; exact q4
  obtain ⟨vm₁, X₁, hstep₁⟩ := X.invokevirtual hexec hown hlink hnamed hmethM hstM hkP hkPi hy (a := b) (cell := cellB) hcell
    (fun z h => by rw [h] at hobj; cases hobj) hselP hmethM habM hkP hkPi (g := g) hg (argsL := argsL) (rest := rest) (hlen _ hsigM) hstack hdg
  rcases hK m meth c ⟨T.setVm vm₁, locs, cells, slots⟩ { g with stack := rest } (.invokevirtual index) mk (Value.ref b :: argsL).toArray X₁ hg hsize hdg hW (X₁.named hnamed) (hpre vm₁ X₁.warmed) with ⟨v, B, X', hpost, hsteps⟩ | ⟨q, B, X', hpost, hsteps⟩
  · exact Or.inl ⟨v, vm₁, B, X₁.warmed, X', hpost, fun target h => hstep₁ _ fun acts => by rw [doInvoke_state]; exact hsteps.trans h⟩
  · exact Or.inr ⟨q, vm₁, B, X₁.warmed, X', hpost, hstep₁ _ fun acts => by rw [doInvoke_state]; exact hsteps⟩
theorem vx_callSX (X : Stand p l e R s m args below meth c T locs cells slots) (hexec : p.tables.exec = Jvm.exec) {own : String} {index : Nat} {y : MethodName} {bytes : ByteArray} {maxL : Nat} {ret : Option FieldType} {hh : List (Nat × Nat × Nat × Nat)}
    (hown : s.vm.findClass own = some m.cls) (hlink : (Cond.methodLink own index y).before args s = true) (hstat : (Cond.static y).before args s = true) (hinit : (Cond.initialized y.cls).before args s = true)
    (hcode : (Cond.codeWith y bytes maxL ret hh).before args s = true) (hy : y.cls ≠ "java/lang/invoke/MethodHandle" ∧ y.cls ≠ "java/lang/invoke/VarHandle")
    {W9 : Nat} {Pre : Pt → Array Value → Prop} {Post : Pt → Array Value → Option Value → Pt → Prop} {PostX : Pt → Array Value → Addr → Pt → Prop} (hK : vx_Back l R p e below s args y 3 W9 Pre Post PostX)
    {g : JFrame} (hg : g.method = m) (hsize : g.locals.size = c.maxLocals) {argsL rest : List Value} (hlen : ∀ sig, parseMethodDescriptor y.desc = some sig → argsL.length = sig.parameters.length)
    (hstack : g.stack = argsL.reverse ++ rest) (hW : 2 * g.monitorRoom + (rest.map fun v => v.category).sum ≤ W9) (hdg : decode c.code g.pc = .ok (.invokestatic index, 3))
    (hpre : ∀ vm₁, s.WarmedH vm₁ → Pre ⟨T.setVm vm₁, locs, cells, slots⟩ argsL.toArray) :
    (∃ (v : Option Value) (vm₁ : Vm) (B : Pt), s.WarmedH vm₁ ∧ Stand p l e R s m args below meth c B.U B.locs B.cells B.slots ∧ Post ⟨T.setVm vm₁, locs, cells, slots⟩ argsL.toArray v B ∧
      ∀ target, Steps p.tables e below (B.U.setTop { g with pc := g.pc + 3, stack := v.toList ++ rest }) target → Steps p.tables e below (T.setTop g) target) ∨
    (∃ (q : Addr) (vm₁ : Vm) (B : Pt), s.WarmedH vm₁ ∧ Stand p l e R s m args below meth c B.U B.locs B.cells B.slots ∧ PostX ⟨T.setVm vm₁, locs, cells, slots⟩ argsL.toArray q B ∧
      Steps p.tables e below (T.setTop g) ((B.U.setTop { g with stack := rest }).pushFrame (.throwing q))) := by
  obtain ⟨mk, methM, cM, hnamed, hmethM, -, -, -, -, -, -, hsigM⟩ := Cond.codeWith_spec hcode
  have hstatic : methM.isStatic = true := Cond.static_spec hnamed hmethM hstat
  obtain ⟨kP, hkP, -⟩ := className_of_methodNamed hnamed
  have hinitP : kP.init = .initialized := Cond.initialized_spec (findClass_of_methodNamed hnamed) hkP hinit
  obtain ⟨vm₁, X₁, hstep₁⟩ := X.invokestatic hexec hown hlink hnamed hmethM hstatic hkP hinitP hy (g := g) hg (argsL := argsL) (rest := rest) (hlen _ hsigM) hstack hdg
  rcases hK m meth c ⟨T.setVm vm₁, locs, cells, slots⟩ { g with stack := rest } (.invokestatic index) mk argsL.toArray X₁ hg hsize hdg hW (X₁.named hnamed) (hpre vm₁ X₁.warmed) with ⟨v, B, X', hpost, hsteps⟩ | ⟨q, B, X', hpost, hsteps⟩
  · exact Or.inl ⟨v, vm₁, B, X₁.warmed, X', hpost, fun target h => hstep₁ _ fun acts => by rw [doInvoke_state]; exact hsteps.trans h⟩
  · exact Or.inr ⟨q, vm₁, B, X₁.warmed, X', hpost, hstep₁ _ fun acts => by rw [doInvoke_state]; exact hsteps⟩
theorem vx_callVW (X : Stand p l e R s m args below meth c T locs cells slots) (hexec : p.tables.exec = Jvm.exec) {own C : String} {index : Nat} {y : MethodName} {bytes : ByteArray} {maxL : Nat} {ret : Option FieldType} {hh : List (Nat × Nat × Nat × Nat)}
    (hown : s.vm.findClass own = some m.cls) (hlink : (Cond.methodLink own index y).before args s = true) (hinst : (Cond.instanceMethod y).before args s = true) (hsel : (Cond.selects C y y).before args s = true)
    (hcode : (Cond.codeWith y bytes maxL ret hh).before args s = true) (hy : y.cls ≠ "java/lang/invoke/MethodHandle" ∧ y.cls ≠ "java/lang/invoke/VarHandle")
    {W9 : Nat} {Pre : Pt → Array Value → Prop} {Post : Pt → Array Value → Option Value → Pt → Prop} (hK : Back l R p e below s args y 3 W9 Pre Post)
    {b : Addr} {cellB : Cell} (hcell : T.heap[b]? = some cellB) (hobj : cellB.vm.isStatics = false) (hcls : s.vm.findClass C = some cellB.cls)
    {g : JFrame} (hg : g.method = m) (hsize : g.locals.size = c.maxLocals) {argsL rest : List Value} (hlen : ∀ sig, parseMethodDescriptor y.desc = some sig → argsL.length = sig.parameters.length)
    (hstack : g.stack = argsL.reverse ++ .ref b :: rest) (hW : 2 * g.monitorRoom + (rest.map fun v => v.category).sum ≤ W9) (hdg : decode c.code g.pc = .ok (.invokevirtual index, 3))
    (hpre : ∀ vm₁, s.WarmedH vm₁ → Pre ⟨T.setVm vm₁, locs, cells, slots⟩ (Value.ref b :: argsL).toArray) :
    ∃ (v : Option Value) (vm₁ : Vm) (B : Pt), s.WarmedH vm₁ ∧ Stand p l e R s m args below meth c B.U B.locs B.cells B.slots ∧ Post ⟨T.setVm vm₁, locs, cells, slots⟩ (Value.ref b :: argsL).toArray v B ∧
      ∀ target, Steps p.tables e below (B.U.setTop { g with pc := g.pc + 3, stack := v.toList ++ rest }) target → Steps p.tables e below (T.setTop g) target := by
  obtain ⟨mk, methM, hnamed, hmethM, hstM, habM⟩ := Cond.instanceMethod_spec hinst
  obtain ⟨m8, methM', cM, hn8, hmethM', -, -, -, -, -, -, hsigM⟩ := Cond.codeWith_spec hcode
  cases Option.some.inj (hn8.symm.trans hnamed)
  cases hmethM.symm.trans hmethM'
  obtain ⟨c2, r2, m2, q1, q2, q3, q4, kP, hkP, hkPi⟩ := Cond.selects_spec hsel
  cases hcls.symm.trans q1
  cases (State.methodFound?_of_named hnamed hy).symm.trans q2
  cases hnamed.symm.trans q3
  have hselP : selectMethod e.platform s.vm cellB.cls mk = .method mk := by rw [Launch.admits_selectMethod X.admits]; exact q4
  obtain ⟨vm₁, X₁, hstep₁⟩ := X.invokevirtual hexec hown hlink hnamed hmethM hstM hkP hkPi hy (a := b) (cell := cellB) hcell
    (fun z h => by rw [h] at hobj; cases hobj) hselP hmethM habM hkP hkPi (g := g) hg (argsL := argsL) (rest := rest) (hlen _ hsigM) hstack hdg
  obtain ⟨v, B, X', hpost, hsteps⟩ := hK m meth c ⟨T.setVm vm₁, locs, cells, slots⟩ { g with stack := rest } (.invokevirtual index) mk (Value.ref b :: argsL).toArray X₁ hg hsize hdg hW (X₁.named hnamed) (hpre vm₁ X₁.warmed)
  exact ⟨v, vm₁, B, X₁.warmed, X', hpost, fun target h => hstep₁ _ fun acts => by rw [doInvoke_state]; exact hsteps.trans h⟩
abbrev vx_CVW (R : Room) (s : State) (args : Array Value) (own C : String) (index : Nat) (y : MethodName) (bytes : ByteArray) (maxL : Nat) (ret : Option FieldType) (hh : List (Nat × Nat × Nat × Nat)) (ws : List Cond) (rm : Room) (mc ms n : Nat) : Prop :=
  (rm.cells = mc ∧ rm.slots = ms ∧ rm.frames + 1 ≤ R.frames ∧ 8 + (maxL + 11) + rm.locals ≤ R.locals ∧ (∀ w ∈ ws, ∀ (a' : Array Value) (U : State), s.WarmedH U.vm → w.before a' U = true) ∧ Cond.codeWith y bytes maxL ret hh ∈ ws) ∧
  (Cond.codeWith y bytes maxL ret hh).before args s = true ∧ (Cond.initialized y.cls).before args s = true ∧ (y.cls ≠ "java/lang/invoke/MethodHandle" ∧ y.cls ≠ "java/lang/invoke/VarHandle") ∧
  (∀ sig, parseMethodDescriptor y.desc = some sig → n = sig.parameters.length) ∧ (Cond.methodLink own index y).before args s = true ∧ (Cond.instanceMethod y).before args s = true ∧ (Cond.selects C y y).before args s = true
theorem vx_cwVW {own C : String} {index maxL mc ms : Nat} {y : MethodName} {bytes : ByteArray} {ret : Option FieldType} {hh : List (Nat × Nat × Nat × Nat)} {Ts ws ws' : List Cond} {rm : Room} (n : Nat) (ht : ∀ w ∈ Ts, w.before args s = true) (hT : GoodIn Ts (wsV own index C y ws)) (hw : ws = Cond.codeWith y bytes maxL ret hh :: ws') (hrc : rm.cells = mc) (hrs : rm.slots = ms)
    (hd : y.cls = C ∧ y.cls ≠ "java/lang/invoke/MethodHandle" ∧ y.cls ≠ "java/lang/invoke/VarHandle" ∧ (parseMethodDescriptor y.desc).map (fun d => d.parameters.length) = some n) (hR : rm.frames + 1 ≤ R.frames ∧ 8 + (maxL + 11) + rm.locals ≤ R.locals) :
    vx_CVW R s args own C index y bytes maxL ret hh ws rm mc ms n := by
  obtain ⟨hC, hd⟩ := hd
  subst hC
  have ok : ∀ w ∈ wsV own index y.cls y ws, w.before args s = true := fun w h => ht w (hT w h).1
  have hG : GoodIn Ts ws := fun w h => hT w (by unfold wsV; exact List.mem_append_right _ h)
  have hc : Cond.codeWith y bytes maxL ret hh ∈ ws := by rw [hw]; exact List.mem_cons_self
  refine ⟨⟨hrc, hrs, hR.1, hR.2, pay_in ht hG, hc⟩, ht _ (hG _ hc).1, ok _ (by simp [wsV]), ⟨hd.1, hd.2.1⟩, fun sig h => ?_, ok _ (by simp [wsV]), ok _ (by simp [wsV]), ok _ (by simp [wsV])⟩
  have h2 := hd.2.2
  rw [h] at h2
  exact (Option.some.inj h2).symm
theorem vx_runVW {y : MethodName} {bytes cc : ByteArray} {maxL nL mc ms n index : Nat} {ret : Option FieldType} {hh : List (Nat × Nat × Nat × Nat)} {ws : List Cond} {rm : Room} {Pc : Array Value → State → Prop} {Qc : Array Value → State → Outcome → State → Prop} {free : Addr → Prop} {Ts : List Cond} {own C : String} {b : Addr} {As rest : List Value} {g : JFrame}
    (S : CallFix p m c cc nL s args Ts own) (hM : Met l y ws rm Pc Qc mc ms free) (cw : vx_CVW R s args own C index y bytes maxL ret hh ws rm mc ms n) (hp : PreV s H C b Pc As)
    (hg : g.method = m) (hn : As.length = n) (hsize : g.locals.size = nL) (hstack : g.stack = As.reverse ++ .ref b :: rest) (hW : 2 * g.monitorRoom + (rest.map fun v => v.category).sum ≤ 8) (hdg : decode cc g.pc = .ok (.invokevirtual index, 3)) (hf : cells + mc ≤ R.cells ∧ slots + ms ≤ R.slots) :
    va_Run p l e R s m args below meth c H locs cells slots mc ms g rest (Qc (Value.ref b :: As).toArray) free := by
  obtain ⟨⟨hrc, hrs, hfr, hlo, hws, hcw⟩, hcode, hini, hy, hlen, hl, hin, hse⟩ := cw
  have hK : Back l R p e below s args y 3 8 (PreOf R mc ms Pc) (PostOf Qc mc ms free) := va_backW (hh := hh) (bytes := bytes) (maxL := maxL) (ret := ret) hM hp.1 hrc hrs hfr hlo hws hcw (fun a' U hW => word_at hW (Or.inl (by first | rfl | simp [Cond.onTables, Cond.keeps, Cond.steady])) hini)
  obtain ⟨hx, hb, hml, ho, -⟩ := S
  obtain ⟨-, ⟨cellB, hcB, hoB, hclB⟩, hPc⟩ := hp
  intro T hT X
  obtain ⟨v, vm₁, ⟨U', l2, c2, s2⟩, hW₁, X', ⟨g', mk, t, L, e1, e2, hq, h1, hL, h2, h3⟩, st⟩ := vx_callVW X hx (C := C) (hh := hh) (bytes := bytes) (maxL := maxL) (ret := ret) ho hl hin hse hcode hy hK (by rw [hT]; exact hcB) hoB hclB hg (hsize.trans hml.symm) (argsL := As) (rest := rest) (fun sig h => hn.trans (hlen sig h)) hstack hW (by rw [hb]; exact hdg)
    (fun vm₁ hW₁ => ⟨hf.1, hf.2, hPc (T.setVm vm₁) hT hW₁⟩)
  dsimp only [Pt.U, Pt.locs, Pt.cells, Pt.slots] at X' e1 e2 h1 h2 h3 st
  subst h1; subst h2; subst h3
  exact ⟨v, (T.setVm vm₁).calling g' mk (Value.ref b :: As).toArray, t, U', L, hT, X', hL, e1, e2, hq, st⟩
section
variable {y : MethodName} {bytes cc : ByteArray} {maxL nL mc ms n index : Nat} {ret : Option FieldType} {ws : List Cond} {rm : Room} {Pc : Array Value → State → Prop} {Qc : Array Value → State → Outcome → State → Prop} {XC : String → State → State → Prop} {free : Addr → Prop} {Ts : List Cond} {own C : String} {b : Addr} {As rest : List Value} {g : JFrame}
theorem vx_runVX {hh : List (Nat × Nat × Nat × Nat)} (S : CallFix p m c cc nL s args Ts own) (hM : vx_Met l y ws rm Pc Qc XC mc ms free) (cw : vx_CVW R s args own C index y bytes maxL ret hh ws rm mc ms n) (hp : PreV s H C b Pc As)
    (hg : g.method = m) (hn : As.length = n) (hsize : g.locals.size = nL) (hstack : g.stack = As.reverse ++ .ref b :: rest) (hW : 2 * g.monitorRoom + (rest.map fun v => v.category).sum ≤ 8) (hdg : decode cc g.pc = .ok (.invokevirtual index, 3)) (hf : cells + mc ≤ R.cells ∧ slots + ms ≤ R.slots) :
    vx_Run p l e R s m args below meth c H locs cells slots mc ms g rest (Qc (Value.ref b :: As).toArray) XC free := by
  obtain ⟨⟨hrc, hrs, hfr, hlo, hws, hcw⟩, hcode, hini, hy, hlen, hl, hin, hse⟩ := cw
  have hK : vx_Back l R p e below s args y 3 8 (PreOf R mc ms Pc) (PostOf Qc mc ms free) (vx_Post XC mc ms free) := vx_backW (hh := hh) (bytes := bytes) (maxL := maxL) (ret := ret) hM hp.1 hrc hrs hfr hlo hws hcw (fun a' U hW => word_at hW (Or.inl (by first | rfl | simp [Cond.onTables, Cond.keeps, Cond.steady])) hini)
  obtain ⟨hx, hb, hml, ho, -⟩ := S
  obtain ⟨-, ⟨cellB, hcB, hoB, hclB⟩, hPc⟩ := hp
  intro T hT X
  rcases vx_callVX X hx (C := C) (hh := hh) (bytes := bytes) (maxL := maxL) (ret := ret) ho hl hin hse hcode hy hK (by rw [hT]; exact hcB) hoB hclB hg (hsize.trans hml.symm) (argsL := As) (rest := rest) (fun sig h => hn.trans (hlen sig h)) hstack hW (by rw [hb]; exact hdg)
    (fun vm₁ hW₁ => ⟨hf.1, hf.2, hPc (T.setVm vm₁) hT hW₁⟩) with ⟨v, vm₁, ⟨U', l2, c2, s2⟩, hW₁, X', ⟨g', mk, t, L, e1, e2, hq, h1, hL, h2, h3⟩, st⟩ | ⟨q, vm₁, ⟨U', l2, c2, s2⟩, hW₁, X', ⟨g', mk, t, L, E, ce, e1, e2, hq, hce, hcv, hcl, h1, hL, h2, h3⟩, st⟩
  · dsimp only [Pt.U, Pt.locs, Pt.cells, Pt.slots] at X' e1 e2 h1 h2 h3 st
    subst h1; subst h2; subst h3
    exact Or.inl ⟨v, (T.setVm vm₁).calling g' mk (Value.ref b :: As).toArray, t, U', L, hT, X', hL, e1, e2, hq, st⟩
  · dsimp only [Pt.U, Pt.locs, Pt.cells, Pt.slots] at X' e1 e2 h1 h2 h3 st hcl
    subst h1; subst h2; subst h3
    exact Or.inr ⟨q, (T.setVm vm₁).calling g' mk (Value.ref b :: As).toArray, t, U', L, E, ce, hT, X', hL, e1, e2, hq, hce, hcv, vx_cls hW₁ hcl, st⟩
theorem vx_runSX {hh : List (Nat × Nat × Nat × Nat)} (S : CallFix p m c cc nL s args Ts own) (hM : vx_Met l y ws rm Pc Qc XC mc ms free) (cw : vx_CSW R s args own index y bytes maxL ret hh ws rm mc ms n) (hp : PreS s H Pc As)
    (hg : g.method = m) (hn : As.length = n) (hsize : g.locals.size = nL) (hstack : g.stack = As.reverse ++ rest) (hW : 2 * g.monitorRoom + (rest.map fun v => v.category).sum ≤ 8) (hdg : decode cc g.pc = .ok (.invokestatic index, 3)) (hf : cells + mc ≤ R.cells ∧ slots + ms ≤ R.slots) :
    vx_Run p l e R s m args below meth c H locs cells slots mc ms g rest (Qc As.toArray) XC free := by
  obtain ⟨⟨hrc, hrs, hfr, hlo, hws, hcw⟩, hcode, hini, hy, hlen, hl, hstt⟩ := cw
  have hK : vx_Back l R p e below s args y 3 8 (PreOf R mc ms Pc) (PostOf Qc mc ms free) (vx_Post XC mc ms free) := vx_backW (hh := hh) (bytes := bytes) (maxL := maxL) (ret := ret) hM hp.1 hrc hrs hfr hlo hws hcw (fun a' U hW => word_at hW (Or.inl (by first | rfl | simp [Cond.onTables, Cond.keeps, Cond.steady])) hini)
  obtain ⟨hx, hb, hml, ho, -⟩ := S
  intro T hT X
  rcases vx_callSX X hx (hh := hh) (bytes := bytes) (maxL := maxL) (ret := ret) ho hl hstt hini hcode hy hK hg (hsize.trans hml.symm) (argsL := As) (rest := rest) (fun sig h => hn.trans (hlen sig h)) hstack hW (by rw [hb]; exact hdg)
    (fun vm₁ hW₁ => ⟨hf.1, hf.2, hp.2 (T.setVm vm₁) hT hW₁⟩) with ⟨v, vm₁, ⟨U', l2, c2, s2⟩, hW₁, X', ⟨g', mk, t, L, e1, e2, hq, h1, hL, h2, h3⟩, st⟩ | ⟨q, vm₁, ⟨U', l2, c2, s2⟩, hW₁, X', ⟨g', mk, t, L, E, ce, e1, e2, hq, hce, hcv, hcl, h1, hL, h2, h3⟩, st⟩
  · dsimp only [Pt.U, Pt.locs, Pt.cells, Pt.slots] at X' e1 e2 h1 h2 h3 st
    subst h1; subst h2; subst h3
    exact Or.inl ⟨v, (T.setVm vm₁).calling g' mk As.toArray, t, U', L, hT, X', hL, e1, e2, hq, st⟩
  · dsimp only [Pt.U, Pt.locs, Pt.cells, Pt.slots] at X' e1 e2 h1 h2 h3 st hcl
    subst h1; subst h2; subst h3
    exact Or.inr ⟨q, (T.setVm vm₁).calling g' mk As.toArray, t, U', L, E, ce, hT, X', hL, e1, e2, hq, hce, hcv, vx_cls hW₁ hcl, st⟩
end
end VXH
theorem vx_ofWH {l : Launch} {y : MethodName} {ws ws' : List Cond} {rm : Room} {Pc : Array Value → State → Prop} {Qc : Array Value → State → Outcome → State → Prop} {XC : String → State → State → Prop} {mc ms : Nat} {free : Addr → Prop} {cc : ByteArray} {maxL : Nat} {ret : Option FieldType} {hh : List (Nat × Nat × Nat × Nat)}
    (hy : plainName y.cls = true) (hw : ws = Cond.codeWith y cc maxL ret hh :: ws')
    (body : ∀ p e s m args below meth c s₁, BodyLoose p l y (headSpec ws rm) cc maxL ret e s m args below meth c s₁ → c.maxLocals = maxL → Pc args s →
      W p l e (headSpec ws rm).room s m args below meth c s.heap [] 0 0 (vx_MQ below Qc XC args s mc ms free) (entryFrame m args maxL)) : vx_Met l y ws rm Pc Qc XC mc ms free := by
  refine MetFree.of_bodyS (code := cc) (maxLocals := maxL) (ret := ret) hy ?_ ?_
  · intro args s m h hn
    obtain ⟨m9, meth, c, hn9, h1, h2, h3, h4, -, h5, h6, -⟩ := Cond.codeWith_spec (atoms_spec (ws := ws) h _ (by rw [hw]; exact List.mem_cons_self))
    cases hn.symm.trans hn9
    exact ⟨meth, c, h1, h2, h3, h4, h5, h6⟩
  · intro p e s m args below meth c s₁ B hml hP _
    have hh0 : s₁.heap = s.heap := by rw [B.state]; rfl
    obtain ⟨t, a1, o, b1, b2, b3⟩ := body p e s m args below meth c s₁ B hml hP s₁ hh0 (Stand.of_body B)
    exact ⟨t, o, a1, b1, b2, b3⟩
/-! ===== END ===== -/

/-! ===== BEGIN printed: names, fields, word lists, decode rows ===== -/
end
section
def RX0 : String := "VinegarLoft$Barrel"
def TX0 : u_T := fun k => match k with
  | 0 => ("VinegarLoft$Barrel", "wood", "I", false)
  | 1 => ("VinegarLoft$Barrel", "size", "I", false)
  | 2 => ("VinegarLoft$Barrel", "litres", "D", false)
  | 3 => ("VinegarLoft$Barrel", "age", "D", false)
  | 4 => ("VinegarLoft$Barrel", "acid", "D", false)
  | _ => ("VinegarLoft$Barrel", "sugar", "D", false)
def tyX0 : Nat → FieldType := fun k => match k with
  | 0 => .int
  | 1 => .int
  | 2 => .double
  | 3 => .double
  | 4 => .double
  | _ => .double
abbrev wsX00 : List Cond := u_ws RX0 TX0 6
theorem nmX0 : ∀ a, a < 6 → ∀ b, b < 6 → a ≠ b → (TX0 a).2.1 ≠ (TX0 b).2.1 := by decide +kernel
theorem tyX0_ok : ∀ k, k < 6 → parseFieldDescriptor (TX0 k).2.2.1 = some (tyX0 k) := by decide +kernel
abbrev cX0_init : ByteArray := prog_2_method_1_code
def yX0_init : MethodName := ⟨RX0, "<init>", "()V"⟩
abbrev cX0_copyFrom : ByteArray := prog_2_method_2_code
def yX0_copyFrom : MethodName := ⟨RX0, "copyFrom", "(LVinegarLoft$Barrel;)V"⟩
abbrev cX0_isEmpty : ByteArray := prog_2_method_3_code
def yX0_isEmpty : MethodName := ⟨RX0, "isEmpty", "()Z"⟩
abbrev cX0_clear : ByteArray := prog_2_method_4_code
def yX0_clear : MethodName := ⟨RX0, "clear", "()V"⟩
abbrev cX0_mixIn : ByteArray := prog_2_method_5_code
def yX0_mixIn : MethodName := ⟨RX0, "mixIn", "(DDDD)V"⟩
abbrev cX0_takeOut : ByteArray := prog_2_method_6_code
def yX0_takeOut : MethodName := ⟨RX0, "takeOut", "(D)V"⟩
abbrev cX0_spendYear : ByteArray := prog_2_method_7_code
def yX0_spendYear : MethodName := ⟨RX0, "spendYear", "(D)D"⟩
abbrev cX0_sour : ByteArray := prog_2_method_8_code
def yX0_sour : MethodName := ⟨RX0, "sour", "()V"⟩
abbrev cX0_taste : ByteArray := prog_2_method_9_code
def yX0_taste : MethodName := ⟨RX0, "taste", "()D"⟩
abbrev cX0_mixed : ByteArray := prog_2_method_10_code
def yX0_mixed : MethodName := ⟨RX0, "mixed", "(DDDD)D"⟩
abbrev cX0_share : ByteArray := prog_2_method_11_code
def yX0_share : MethodName := ⟨RX0, "share", "(I)D"⟩
def RX1 : String := "VinegarLoft$Row"
def TX1 : u_T := fun k => match k with
  | 0 => ("VinegarLoft$Row", "line", "[LVinegarLoft$Barrel;", true)
  | 1 => ("VinegarLoft$Row", "count", "I", false)
  | 2 => ("VinegarLoft$Row", "warmth", "I", false)
  | 3 => ("VinegarLoft$Row", "drawnFrom", "I", false)
  | _ => ("VinegarLoft$Row", "mayBeDrawn", "D", false)
def tyX1 : Nat → FieldType := fun k => match k with
  | 0 => .array (.object "VinegarLoft$Barrel")
  | 1 => .int
  | 2 => .int
  | 3 => .int
  | _ => .double
abbrev wsX10 : List Cond := u_ws RX1 TX1 5
theorem nmX1 : ∀ a, a < 5 → ∀ b, b < 5 → a ≠ b → (TX1 a).2.1 ≠ (TX1 b).2.1 := by decide +kernel
theorem tyX1_ok : ∀ k, k < 5 → parseFieldDescriptor (TX1 k).2.2.1 = some (tyX1 k) := by decide +kernel
abbrev cX1_init : ByteArray := prog_3_method_1_code
def yX1_init : MethodName := ⟨RX1, "<init>", "()V"⟩
abbrev cX1_copyFrom : ByteArray := prog_3_method_2_code
def yX1_copyFrom : MethodName := ⟨RX1, "copyFrom", "(LVinegarLoft$Row;)V"⟩
abbrev cX1_isComplete : ByteArray := prog_3_method_3_code
def yX1_isComplete : MethodName := ⟨RX1, "isComplete", "()Z"⟩
abbrev cX1_largestNext : ByteArray := prog_3_method_4_code
def yX1_largestNext : MethodName := ⟨RX1, "largestNext", "()I"⟩
abbrev cX1_putBehind : ByteArray := prog_3_method_5_code
def yX1_putBehind : MethodName := ⟨RX1, "putBehind", "(II)I"⟩
abbrev cX1_pourMust : ByteArray := prog_3_method_6_code
def yX1_pourMust : MethodName := ⟨RX1, "pourMust", "(I)D"⟩
abbrev cX1_passDown : ByteArray := prog_3_method_7_code
def yX1_passDown : MethodName := ⟨RX1, "passDown", "()D"⟩
abbrev cX1_passBetween : ByteArray := prog_3_method_8_code
def yX1_passBetween : MethodName := ⟨RX1, "passBetween", "(LVinegarLoft$Barrel;LVinegarLoft$Barrel;)D"⟩
abbrev cX1_ageAll : ByteArray := prog_3_method_9_code
def yX1_ageAll : MethodName := ⟨RX1, "ageAll", "()D"⟩
abbrev cX1_draughtNow : ByteArray := prog_3_method_10_code
def yX1_draughtNow : MethodName := ⟨RX1, "draughtNow", "()D"⟩
abbrev cX1_eldest : ByteArray := prog_3_method_11_code
def yX1_eldest : MethodName := ⟨RX1, "eldest", "()I"⟩
abbrev cX1_greatestAge : ByteArray := prog_3_method_12_code
def yX1_greatestAge : MethodName := ⟨RX1, "greatestAge", "()D"⟩
abbrev cX1_bottlesReady : ByteArray := prog_3_method_13_code
def yX1_bottlesReady : MethodName := ⟨RX1, "bottlesReady", "()I"⟩
abbrev cX1_takeBottles : ByteArray := prog_3_method_14_code
def yX1_takeBottles : MethodName := ⟨RX1, "takeBottles", "(I)V"⟩
abbrev cX1_allLitres : ByteArray := prog_3_method_15_code
def yX1_allLitres : MethodName := ⟨RX1, "allLitres", "()D"⟩
abbrev cX1_litresTimesAge : ByteArray := prog_3_method_16_code
def yX1_litresTimesAge : MethodName := ⟨RX1, "litresTimesAge", "()D"⟩
abbrev cX1_litresTimesSugar : ByteArray := prog_3_method_17_code
def yX1_litresTimesSugar : MethodName := ⟨RX1, "litresTimesSugar", "()D"⟩
def RX2 : String := "VinegarLoft"
def TX2 : u_T := fun k => match k with
  | 0 => ("VinegarLoft", "row", "LVinegarLoft$Row;", true)
  | 1 => ("VinegarLoft", "trial", "LVinegarLoft$Row;", true)
  | 2 => ("VinegarLoft", "drawnByKind", "[I", true)
  | _ => ("VinegarLoft", "yearsGone", "I", false)
def tyX2 : Nat → FieldType := fun k => match k with
  | 0 => .object "VinegarLoft$Row"
  | 1 => .object "VinegarLoft$Row"
  | 2 => .array .int
  | _ => .int
abbrev wsX20 : List Cond := u_ws RX2 TX2 4
theorem nmX2 : ∀ a, a < 4 → ∀ b, b < 4 → a ≠ b → (TX2 a).2.1 ≠ (TX2 b).2.1 := by decide +kernel
theorem tyX2_ok : ∀ k, k < 4 → parseFieldDescriptor (TX2 k).2.2.1 = some (tyX2 k) := by decide +kernel
abbrev cX2_init : ByteArray := prog_1_method_1_code
def yX2_init : MethodName := ⟨RX2, "<init>", "()V"⟩
abbrev cX2_add : ByteArray := prog_1_method_2_code
def yX2_add : MethodName := ⟨RX2, "add", "(II)I"⟩
abbrev cX2_fill : ByteArray := prog_1_method_3_code
def yX2_fill : MethodName := ⟨RX2, "fill", "(I)D"⟩
abbrev cX2_topUp : ByteArray := prog_1_method_4_code
def yX2_topUp : MethodName := ⟨RX2, "topUp", "()D"⟩
abbrev cX2_year : ByteArray := prog_1_method_5_code
def yX2_year : MethodName := ⟨RX2, "year", "()D"⟩
abbrev cX2_draw : ByteArray := prog_1_method_6_code
def yX2_draw : MethodName := ⟨RX2, "draw", "(I)I"⟩
abbrev cX2_pourAway : ByteArray := prog_1_method_7_code
def yX2_pourAway : MethodName := ⟨RX2, "pourAway", "(I)D"⟩
abbrev cX2_setWarmth : ByteArray := prog_1_method_8_code
def yX2_setWarmth : MethodName := ⟨RX2, "setWarmth", "(I)V"⟩
abbrev cX2_barrels : ByteArray := prog_1_method_9_code
def yX2_barrels : MethodName := ⟨RX2, "barrels", "()I"⟩
abbrev cX2_litresIn : ByteArray := prog_1_method_10_code
def yX2_litresIn : MethodName := ⟨RX2, "litresIn", "(I)D"⟩
abbrev cX2_ageOf : ByteArray := prog_1_method_11_code
def yX2_ageOf : MethodName := ⟨RX2, "ageOf", "(I)D"⟩
abbrev cX2_acidOf : ByteArray := prog_1_method_12_code
def yX2_acidOf : MethodName := ⟨RX2, "acidOf", "(I)D"⟩
abbrev cX2_sugarOf : ByteArray := prog_1_method_13_code
def yX2_sugarOf : MethodName := ⟨RX2, "sugarOf", "(I)D"⟩
abbrev cX2_tasteOf : ByteArray := prog_1_method_14_code
def yX2_tasteOf : MethodName := ⟨RX2, "tasteOf", "(I)D"⟩
abbrev cX2_oldest : ByteArray := prog_1_method_15_code
def yX2_oldest : MethodName := ⟨RX2, "oldest", "()I"⟩
abbrev cX2_drawable : ByteArray := prog_1_method_16_code
def yX2_drawable : MethodName := ⟨RX2, "drawable", "()I"⟩
abbrev cX2_bottles : ByteArray := prog_1_method_17_code
def yX2_bottles : MethodName := ⟨RX2, "bottles", "(I)I"⟩
abbrev cX2_years : ByteArray := prog_1_method_18_code
def yX2_years : MethodName := ⟨RX2, "years", "()I"⟩
abbrev cX2_meanAge : ByteArray := prog_1_method_19_code
def yX2_meanAge : MethodName := ⟨RX2, "meanAge", "()D"⟩
abbrev cX2_meanSugar : ByteArray := prog_1_method_20_code
def yX2_meanSugar : MethodName := ⟨RX2, "meanSugar", "()D"⟩
abbrev cX2_firstBottleIn : ByteArray := prog_1_method_21_code
def yX2_firstBottleIn : MethodName := ⟨RX2, "firstBottleIn", "()I"⟩
abbrev cX2_barrelNumbered : ByteArray := prog_1_method_22_code
def yX2_barrelNumbered : MethodName := ⟨RX2, "barrelNumbered", "(I)LVinegarLoft$Barrel;"⟩
abbrev cX2_kindAt : ByteArray := prog_1_method_23_code
def yX2_kindAt : MethodName := ⟨RX2, "kindAt", "(D)I"⟩
def RX3 : String := "VinegarLoftModel"
def TX3 : u_T := fun k => match k with
  | 0 => ("VinegarLoftModel", "wood", "[I", true)
  | 1 => ("VinegarLoftModel", "sizes", "[I", true)
  | 2 => ("VinegarLoftModel", "holds", "[D", true)
  | 3 => ("VinegarLoftModel", "copy", "[D", true)
  | 4 => ("VinegarLoftModel", "many", "I", false)
  | 5 => ("VinegarLoftModel", "warmth", "I", false)
  | 6 => ("VinegarLoftModel", "years", "I", false)
  | 7 => ("VinegarLoftModel", "quota", "D", false)
  | 8 => ("VinegarLoftModel", "quotaFrom", "I", false)
  | 9 => ("VinegarLoftModel", "young", "I", false)
  | 10 => ("VinegarLoftModel", "ripe", "I", false)
  | 11 => ("VinegarLoftModel", "old", "I", false)
  | _ => ("VinegarLoftModel", "thrown", "I", false)
def tyX3 : Nat → FieldType := fun k => match k with
  | 0 => .array .int
  | 1 => .array .int
  | 2 => .array .double
  | 3 => .array .double
  | 4 => .int
  | 5 => .int
  | 6 => .int
  | 7 => .double
  | 8 => .int
  | 9 => .int
  | 10 => .int
  | 11 => .int
  | _ => .int
abbrev wsX30 : List Cond := u_ws RX3 TX3 13
theorem nmX3 : ∀ a, a < 13 → ∀ b, b < 13 → a ≠ b → (TX3 a).2.1 ≠ (TX3 b).2.1 := by decide +kernel
theorem tyX3_ok : ∀ k, k < 13 → parseFieldDescriptor (TX3 k).2.2.1 = some (tyX3 k) := by decide +kernel
abbrev cX3_init : ByteArray := prog_5_method_1_code
def yX3_init : MethodName := ⟨RX3, "<init>", "()V"⟩
abbrev cX3_thrown : ByteArray := prog_5_method_2_code
def yX3_thrown : MethodName := ⟨RX3, "thrown", "()I"⟩
abbrev cX3_isThere : ByteArray := prog_5_method_3_code
def yX3_isThere : MethodName := ⟨RX3, "isThere", "(I)Z"⟩
abbrev cX3_isEmpty : ByteArray := prog_5_method_4_code
def yX3_isEmpty : MethodName := ⟨RX3, "isEmpty", "(I)Z"⟩
abbrev cX3_lesser : ByteArray := prog_5_method_5_code
def yX3_lesser : MethodName := ⟨RX3, "lesser", "(DD)D"⟩
abbrev cX3_mixes : ByteArray := prog_5_method_6_code
def yX3_mixes : MethodName := ⟨RX3, "mixes", "(IIDD)V"⟩
abbrev cX3_gets : ByteArray := prog_5_method_7_code
def yX3_gets : MethodName := ⟨RX3, "gets", "(IDDDD)V"⟩
abbrev cX3_pours : ByteArray := prog_5_method_8_code
def yX3_pours : MethodName := ⟨RX3, "pours", "(D)D"⟩
abbrev cX3_room : ByteArray := prog_5_method_9_code
def yX3_room : MethodName := ⟨RX3, "room", "()D"⟩
abbrev cX3_topsUp : ByteArray := prog_5_method_10_code
def yX3_topsUp : MethodName := ⟨RX3, "topsUp", "()D"⟩
abbrev cX3_share : ByteArray := prog_5_method_11_code
def yX3_share : MethodName := ⟨RX3, "share", "(I)D"⟩
abbrev cX3_draught : ByteArray := prog_5_method_12_code
def yX3_draught : MethodName := ⟨RX3, "draught", "()D"⟩
abbrev cX3_ages : ByteArray := prog_5_method_13_code
def yX3_ages : MethodName := ⟨RX3, "ages", "(I)D"⟩
abbrev cX3_oldestNow : ByteArray := prog_5_method_14_code
def yX3_oldestNow : MethodName := ⟨RX3, "oldestNow", "()I"⟩
abbrev cX3_passes : ByteArray := prog_5_method_15_code
def yX3_passes : MethodName := ⟨RX3, "passes", "()D"⟩
abbrev cX3_bottlesNow : ByteArray := prog_5_method_16_code
def yX3_bottlesNow : MethodName := ⟨RX3, "bottlesNow", "()I"⟩
abbrev cX3_add : ByteArray := prog_5_method_17_code
def yX3_add : MethodName := ⟨RX3, "add", "(II)I"⟩
abbrev cX3_fill : ByteArray := prog_5_method_18_code
def yX3_fill : MethodName := ⟨RX3, "fill", "(I)D"⟩
abbrev cX3_topUp : ByteArray := prog_5_method_19_code
def yX3_topUp : MethodName := ⟨RX3, "topUp", "()D"⟩
abbrev cX3_year : ByteArray := prog_5_method_20_code
def yX3_year : MethodName := ⟨RX3, "year", "()D"⟩
abbrev cX3_empties : ByteArray := prog_5_method_21_code
def yX3_empties : MethodName := ⟨RX3, "empties", "(I)V"⟩
abbrev cX3_draw : ByteArray := prog_5_method_22_code
def yX3_draw : MethodName := ⟨RX3, "draw", "(I)I"⟩
abbrev cX3_pourAway : ByteArray := prog_5_method_23_code
def yX3_pourAway : MethodName := ⟨RX3, "pourAway", "(I)D"⟩
abbrev cX3_setWarmth : ByteArray := prog_5_method_24_code
def yX3_setWarmth : MethodName := ⟨RX3, "setWarmth", "(I)V"⟩
abbrev cX3_barrels : ByteArray := prog_5_method_25_code
def yX3_barrels : MethodName := ⟨RX3, "barrels", "()I"⟩
abbrev cX3_of : ByteArray := prog_5_method_26_code
def yX3_of : MethodName := ⟨RX3, "of", "(II)D"⟩
abbrev cX3_litresIn : ByteArray := prog_5_method_27_code
def yX3_litresIn : MethodName := ⟨RX3, "litresIn", "(I)D"⟩
abbrev cX3_ageOf : ByteArray := prog_5_method_28_code
def yX3_ageOf : MethodName := ⟨RX3, "ageOf", "(I)D"⟩
abbrev cX3_acidOf : ByteArray := prog_5_method_29_code
def yX3_acidOf : MethodName := ⟨RX3, "acidOf", "(I)D"⟩
abbrev cX3_sugarOf : ByteArray := prog_5_method_30_code
def yX3_sugarOf : MethodName := ⟨RX3, "sugarOf", "(I)D"⟩
abbrev cX3_tasteOf : ByteArray := prog_5_method_31_code
def yX3_tasteOf : MethodName := ⟨RX3, "tasteOf", "(I)D"⟩
abbrev cX3_oldest : ByteArray := prog_5_method_32_code
def yX3_oldest : MethodName := ⟨RX3, "oldest", "()I"⟩
abbrev cX3_drawable : ByteArray := prog_5_method_33_code
def yX3_drawable : MethodName := ⟨RX3, "drawable", "()I"⟩
abbrev cX3_bottles : ByteArray := prog_5_method_34_code
def yX3_bottles : MethodName := ⟨RX3, "bottles", "(I)I"⟩
abbrev cX3_years : ByteArray := prog_5_method_35_code
def yX3_years : MethodName := ⟨RX3, "years", "()I"⟩
abbrev cX3_mean : ByteArray := prog_5_method_36_code
def yX3_mean : MethodName := ⟨RX3, "mean", "(I)D"⟩
abbrev cX3_meanAge : ByteArray := prog_5_method_37_code
def yX3_meanAge : MethodName := ⟨RX3, "meanAge", "()D"⟩
abbrev cX3_meanSugar : ByteArray := prog_5_method_38_code
def yX3_meanSugar : MethodName := ⟨RX3, "meanSugar", "()D"⟩
abbrev cX3_firstBottleIn : ByteArray := prog_5_method_39_code
def yX3_firstBottleIn : MethodName := ⟨RX3, "firstBottleIn", "()I"⟩
def RJ0 : String := "java/lang/String"
def TJ0 : u_T := fun k => match k with
  | _ => ("", "", "", false)
def tyJ0 : Nat → FieldType := fun k => match k with
  | _ => .int
abbrev wsJ00 : List Cond := u_ws RJ0 TJ0 0
theorem nmJ0 : ∀ a, a < 0 → ∀ b, b < 0 → a ≠ b → (TJ0 a).2.1 ≠ (TJ0 b).2.1 := by decide +kernel
theorem tyJ0_ok : ∀ k, k < 0 → parseFieldDescriptor (TJ0 k).2.2.1 = some (tyJ0 k) := by decide +kernel
def RL : String := "VinegarLoftLaw"
abbrev cL_add : ByteArray := method_3_code
def yL_add : MethodName := ⟨RL, "add", "(LVinegarLoft;II[J)I"⟩
abbrev cL_fill : ByteArray := method_4_code
def yL_fill : MethodName := ⟨RL, "fill", "(LVinegarLoft;I[D)I"⟩
abbrev cL_draw : ByteArray := method_5_code
def yL_draw : MethodName := ⟨RL, "draw", "(LVinegarLoft;I[J)I"⟩
abbrev cL_pourAway : ByteArray := method_6_code
def yL_pourAway : MethodName := ⟨RL, "pourAway", "(LVinegarLoft;I[D)I"⟩
abbrev cL_setWarmth : ByteArray := method_7_code
def yL_setWarmth : MethodName := ⟨RL, "setWarmth", "(LVinegarLoft;I)I"⟩
abbrev cL_litresIn : ByteArray := method_8_code
def yL_litresIn : MethodName := ⟨RL, "litresIn", "(LVinegarLoft;I[D)I"⟩
abbrev cL_ageOf : ByteArray := method_9_code
def yL_ageOf : MethodName := ⟨RL, "ageOf", "(LVinegarLoft;I[D)I"⟩
abbrev cL_acidOf : ByteArray := method_10_code
def yL_acidOf : MethodName := ⟨RL, "acidOf", "(LVinegarLoft;I[D)I"⟩
abbrev cL_sugarOf : ByteArray := method_11_code
def yL_sugarOf : MethodName := ⟨RL, "sugarOf", "(LVinegarLoft;I[D)I"⟩
abbrev cL_tasteOf : ByteArray := method_12_code
def yL_tasteOf : MethodName := ⟨RL, "tasteOf", "(LVinegarLoft;I[D)I"⟩
abbrev cL_bottles : ByteArray := method_13_code
def yL_bottles : MethodName := ⟨RL, "bottles", "(LVinegarLoft;I[J)I"⟩
abbrev cL_law : ByteArray := code
def yL_law : MethodName := ⟨RL, "law", "([I)Z"⟩
def wsX0_init : List Cond := .code yX0_init cX0_init 1 none :: ([.methodLink RX0 1 objectInit, .instanceMethod objectInit, .code objectInit ⟨#[0xb1]⟩ 1 none])
def wsX0_copyFrom : List Cond := .code yX0_copyFrom cX0_copyFrom 2 none :: ([.fieldLink RX0 7 "VinegarLoft$Barrel" "wood" "I", .fieldLink RX0 13 "VinegarLoft$Barrel" "size" "I", .fieldLink RX0 16 "VinegarLoft$Barrel" "litres" "D", .fieldLink RX0 20 "VinegarLoft$Barrel" "age" "D", .fieldLink RX0 23 "VinegarLoft$Barrel" "acid" "D", .fieldLink RX0 26 "VinegarLoft$Barrel" "sugar" "D"] ++ wsX00)
def wsX0_isEmpty : List Cond := .code yX0_isEmpty cX0_isEmpty 1 (some .boolean) :: ([.fieldLink RX0 16 "VinegarLoft$Barrel" "litres" "D"] ++ wsX00)
def wsX0_clear : List Cond := .code yX0_clear cX0_clear 1 none :: ([.fieldLink RX0 16 "VinegarLoft$Barrel" "litres" "D", .fieldLink RX0 20 "VinegarLoft$Barrel" "age" "D", .fieldLink RX0 23 "VinegarLoft$Barrel" "acid" "D", .fieldLink RX0 26 "VinegarLoft$Barrel" "sugar" "D"] ++ wsX00)
def wsX0_mixed : List Cond := .code yX0_mixed cX0_mixed 10 (some .double) :: ([])
def wsX0_mixIn : List Cond := .code yX0_mixIn cX0_mixIn 9 none :: ([.fieldLink RX0 16 "VinegarLoft$Barrel" "litres" "D", .fieldLink RX0 20 "VinegarLoft$Barrel" "age" "D", .fieldLink RX0 23 "VinegarLoft$Barrel" "acid" "D", .fieldLink RX0 26 "VinegarLoft$Barrel" "sugar" "D", .methodLink RX0 29 yX0_mixed, .static yX0_mixed, .initialized RX0, .code yX0_mixed cX0_mixed 10 (some .double)] ++ wsX00)
def wsX0_takeOut : List Cond := .code yX0_takeOut cX0_takeOut 3 none :: ([.fieldLink RX0 16 "VinegarLoft$Barrel" "litres" "D", .methodLink RX0 33 yX0_clear, .instanceMethod yX0_clear, .selects RX0 yX0_clear yX0_clear, .initialized RX0, .code yX0_clear cX0_clear 1 none, .fieldLink RX0 20 "VinegarLoft$Barrel" "age" "D", .fieldLink RX0 23 "VinegarLoft$Barrel" "acid" "D", .fieldLink RX0 26 "VinegarLoft$Barrel" "sugar" "D"] ++ wsX00)
def wsX0_share : List Cond := .code yX0_share cX0_share 1 (some .double) :: ([.constantDouble RX0 71 (4581421828931458171), .constantDouble RX0 73 (4584304132692975288), .constantDouble RX0 75 (4585204852618449388), .constantDouble RX0 77 (4582862980812216730)])
def wsX0_sour : List Cond := .code yX0_sour cX0_sour 3 none :: ([.fieldLink RX0 26 "VinegarLoft$Barrel" "sugar" "D", .constantDouble RX0 53 (4626322717216342016), .fieldLink RX0 23 "VinegarLoft$Barrel" "acid" "D", .constantDouble RX0 55 (4620693217682128896), .constantDouble RX0 57 (4603579539098121011), .constantDouble RX0 59 (4605380978949069210), .constantDouble RX0 61 (4591870180066957722), .constantDouble RX0 63 (4622945017495814144)] ++ wsX00)
def wsX0_spendYear_r1 : List Cond := [Cond.fieldLink RX0 16 "VinegarLoft$Barrel" "litres" "D", Cond.fieldLink RX0 7 "VinegarLoft$Barrel" "wood" "I", Cond.fieldLink RX0 26 "VinegarLoft$Barrel" "sugar" "D", Cond.constantDouble RX0 48 (4634626229029306368), Cond.fieldLink RX0 20 "VinegarLoft$Barrel" "age" "D", Cond.methodLink RX0 36 yX0_share, Cond.static yX0_share, Cond.initialized RX0, Cond.code yX0_share cX0_share 1 (some .double), Cond.constantDouble RX0 71 (4581421828931458171), Cond.constantDouble RX0 73 (4584304132692975288), Cond.constantDouble RX0 75 (4585204852618449388), Cond.constantDouble RX0 77 (4582862980812216730), Cond.methodLink RX0 40 yX0_takeOut, Cond.instanceMethod yX0_takeOut, Cond.selects RX0 yX0_takeOut yX0_takeOut, Cond.code yX0_takeOut cX0_takeOut 3 none, Cond.methodLink RX0 33 yX0_clear, Cond.instanceMethod yX0_clear, Cond.selects RX0 yX0_clear yX0_clear, Cond.code yX0_clear cX0_clear 1 none, Cond.fieldLink RX0 23 "VinegarLoft$Barrel" "acid" "D", Cond.methodLink RX0 44 yX0_isEmpty, Cond.instanceMethod yX0_isEmpty]
def wsX0_spendYear_r2 : List Cond := [Cond.selects RX0 yX0_isEmpty yX0_isEmpty, Cond.code yX0_isEmpty cX0_isEmpty 1 (some .boolean), Cond.methodLink RX0 50 yX0_sour, Cond.instanceMethod yX0_sour, Cond.selects RX0 yX0_sour yX0_sour, Cond.code yX0_sour cX0_sour 3 none, Cond.constantDouble RX0 53 (4626322717216342016), Cond.constantDouble RX0 55 (4620693217682128896), Cond.constantDouble RX0 57 (4603579539098121011), Cond.constantDouble RX0 59 (4605380978949069210), Cond.constantDouble RX0 61 (4591870180066957722), Cond.constantDouble RX0 63 (4622945017495814144)]
def wsX0_spendYear : List Cond := .code yX0_spendYear cX0_spendYear 9 (some .double) :: ((wsX0_spendYear_r1 ++ wsX0_spendYear_r2) ++ wsX00)
def wsX0_taste : List Cond := .code yX0_taste cX0_taste 5 (some .double) :: ([.fieldLink RX0 23 "VinegarLoft$Barrel" "acid" "D", .constantDouble RX0 65 (4618441417868443648), .constantDouble RX0 67 (4602678819172646912), .fieldLink RX0 20 "VinegarLoft$Barrel" "age" "D", .constantDouble RX0 59 (4605380978949069210), .fieldLink RX0 26 "VinegarLoft$Barrel" "sugar" "D", .constantDouble RX0 69 (4613937818241073152), .methodLink RX0 44 yX0_isEmpty, .instanceMethod yX0_isEmpty, .selects RX0 yX0_isEmpty yX0_isEmpty, .initialized RX0, .code yX0_isEmpty cX0_isEmpty 1 (some .boolean), .fieldLink RX0 16 "VinegarLoft$Barrel" "litres" "D"] ++ wsX00)
def wsX1_init : List Cond := .code yX1_init cX1_init 2 none :: ([.methodLink RX1 3 objectInit, .instanceMethod objectInit, .code objectInit ⟨#[0xb1]⟩ 1 none, .classLink RX1 9 RX0, .fieldLink RX1 11 "VinegarLoft$Row" "line" "[LVinegarLoft$Barrel;", .instantiable RX0 6, .initialized RX0, .fieldLink RX1 18 "VinegarLoft$Row" "count" "I", .fieldLink RX1 22 "VinegarLoft$Row" "warmth" "I", .fieldLink RX1 25 "VinegarLoft$Row" "drawnFrom" "I", .fieldLink RX1 28 "VinegarLoft$Row" "mayBeDrawn" "D", .instanceMethod yX0_init, .code yX0_init cX0_init 1 none, .methodLink RX0 1 objectInit] ++ wsX10 ++ wsX00)
def wsX1_copyFrom : List Cond := .code yX1_copyFrom cX1_copyFrom 3 none :: ([.fieldLink RX1 18 "VinegarLoft$Row" "count" "I", .fieldLink RX1 22 "VinegarLoft$Row" "warmth" "I", .fieldLink RX1 25 "VinegarLoft$Row" "drawnFrom" "I", .fieldLink RX1 28 "VinegarLoft$Row" "mayBeDrawn" "D", .fieldLink RX1 11 "VinegarLoft$Row" "line" "[LVinegarLoft$Barrel;", .methodLink RX1 32 yX0_copyFrom, .instanceMethod yX0_copyFrom, .selects RX0 yX0_copyFrom yX0_copyFrom, .initialized RX0, .code yX0_copyFrom cX0_copyFrom 2 none, .fieldLink RX0 7 "VinegarLoft$Barrel" "wood" "I", .fieldLink RX0 13 "VinegarLoft$Barrel" "size" "I", .fieldLink RX0 16 "VinegarLoft$Barrel" "litres" "D", .fieldLink RX0 20 "VinegarLoft$Barrel" "age" "D", .fieldLink RX0 23 "VinegarLoft$Barrel" "acid" "D", .fieldLink RX0 26 "VinegarLoft$Barrel" "sugar" "D"] ++ wsX10 ++ wsX00)
def wsX1_isComplete : List Cond := .code yX1_isComplete cX1_isComplete 1 (some .boolean) :: ([.fieldLink RX1 18 "VinegarLoft$Row" "count" "I", .fieldLink RX1 11 "VinegarLoft$Row" "line" "[LVinegarLoft$Barrel;"] ++ wsX10)
def wsX1_largestNext : List Cond := .code yX1_largestNext cX1_largestNext 1 (some .int) :: ([.fieldLink RX1 18 "VinegarLoft$Row" "count" "I", .fieldLink RX1 11 "VinegarLoft$Row" "line" "[LVinegarLoft$Barrel;", .fieldLink RX1 36 "VinegarLoft$Barrel" "size" "I"] ++ wsX10 ++ wsX00)
def wsX1_putBehind : List Cond := .code yX1_putBehind cX1_putBehind 4 (some .int) :: ([.fieldLink RX1 11 "VinegarLoft$Row" "line" "[LVinegarLoft$Barrel;", .fieldLink RX1 18 "VinegarLoft$Row" "count" "I", .fieldLink RX1 43 "VinegarLoft$Barrel" "wood" "I", .fieldLink RX1 36 "VinegarLoft$Barrel" "size" "I", .methodLink RX1 39 yX1_isComplete, .instanceMethod yX1_isComplete, .selects RX1 yX1_isComplete yX1_isComplete, .initialized RX1, .code yX1_isComplete cX1_isComplete 1 (some .boolean), .methodLink RX1 46 yX0_clear, .instanceMethod yX0_clear, .selects RX0 yX0_clear yX0_clear, .initialized RX0, .code yX0_clear cX0_clear 1 none, .fieldLink RX0 16 "VinegarLoft$Barrel" "litres" "D", .fieldLink RX0 20 "VinegarLoft$Barrel" "age" "D", .fieldLink RX0 23 "VinegarLoft$Barrel" "acid" "D", .fieldLink RX0 26 "VinegarLoft$Barrel" "sugar" "D"] ++ wsX10 ++ wsX00)
def wsX1_pourMust : List Cond := .code yX1_pourMust cX1_pourMust 7 (some .double) :: ([.fieldLink RX1 18 "VinegarLoft$Row" "count" "I", .fieldLink RX1 11 "VinegarLoft$Row" "line" "[LVinegarLoft$Barrel;", .fieldLink RX1 36 "VinegarLoft$Barrel" "size" "I", .fieldLink RX1 49 "VinegarLoft$Barrel" "litres" "D", .constantDouble RX1 52 (4629137466983448576), .methodLink RX1 54 yX0_mixIn, .instanceMethod yX0_mixIn, .selects RX0 yX0_mixIn yX0_mixIn, .initialized RX0, .code yX0_mixIn cX0_mixIn 9 none, .fieldLink RX0 16 "VinegarLoft$Barrel" "litres" "D", .fieldLink RX0 20 "VinegarLoft$Barrel" "age" "D", .fieldLink RX0 23 "VinegarLoft$Barrel" "acid" "D", .fieldLink RX0 26 "VinegarLoft$Barrel" "sugar" "D", .methodLink RX0 29 yX0_mixed, .static yX0_mixed, .code yX0_mixed cX0_mixed 10 (some .double)] ++ wsX10 ++ wsX00)
def wsX1_passBetween_r1 : List Cond := [Cond.constantDouble RX1 62 (4606281698874543309), Cond.fieldLink RX1 36 "VinegarLoft$Barrel" "size" "I", Cond.fieldLink RX1 49 "VinegarLoft$Barrel" "litres" "D", Cond.constantDouble RX1 64 (4602678819172646912), Cond.fieldLink RX1 66 "VinegarLoft$Barrel" "age" "D", Cond.fieldLink RX1 69 "VinegarLoft$Barrel" "acid" "D", Cond.fieldLink RX1 72 "VinegarLoft$Barrel" "sugar" "D", Cond.methodLink RX1 54 yX0_mixIn, Cond.instanceMethod yX0_mixIn, Cond.selects RX0 yX0_mixIn yX0_mixIn, Cond.initialized RX0, Cond.code yX0_mixIn cX0_mixIn 9 none, Cond.fieldLink RX0 16 "VinegarLoft$Barrel" "litres" "D", Cond.fieldLink RX0 20 "VinegarLoft$Barrel" "age" "D", Cond.fieldLink RX0 23 "VinegarLoft$Barrel" "acid" "D", Cond.fieldLink RX0 26 "VinegarLoft$Barrel" "sugar" "D", Cond.methodLink RX0 29 yX0_mixed, Cond.static yX0_mixed, Cond.code yX0_mixed cX0_mixed 10 (some .double), Cond.methodLink RX1 75 yX0_takeOut, Cond.instanceMethod yX0_takeOut, Cond.selects RX0 yX0_takeOut yX0_takeOut, Cond.code yX0_takeOut cX0_takeOut 3 none, Cond.methodLink RX0 33 yX0_clear]
def wsX1_passBetween_r2 : List Cond := [Cond.instanceMethod yX0_clear, Cond.selects RX0 yX0_clear yX0_clear, Cond.code yX0_clear cX0_clear 1 none]
def wsX1_passBetween : List Cond := .code yX1_passBetween cX1_passBetween 8 (some .double) :: ((wsX1_passBetween_r1 ++ wsX1_passBetween_r2) ++ wsX00)
def wsX1_passDown_r1 : List Cond := [Cond.fieldLink RX1 18 "VinegarLoft$Row" "count" "I", Cond.fieldLink RX1 11 "VinegarLoft$Row" "line" "[LVinegarLoft$Barrel;", Cond.methodLink RX1 58 yX1_passBetween, Cond.static yX1_passBetween, Cond.initialized RX1, Cond.code yX1_passBetween cX1_passBetween 8 (some .double), Cond.constantDouble RX1 62 (4606281698874543309), Cond.fieldLink RX1 36 "VinegarLoft$Barrel" "size" "I", Cond.fieldLink RX1 49 "VinegarLoft$Barrel" "litres" "D", Cond.constantDouble RX1 64 (4602678819172646912), Cond.fieldLink RX1 66 "VinegarLoft$Barrel" "age" "D", Cond.fieldLink RX1 69 "VinegarLoft$Barrel" "acid" "D", Cond.fieldLink RX1 72 "VinegarLoft$Barrel" "sugar" "D", Cond.methodLink RX1 54 yX0_mixIn, Cond.instanceMethod yX0_mixIn, Cond.selects RX0 yX0_mixIn yX0_mixIn, Cond.initialized RX0, Cond.code yX0_mixIn cX0_mixIn 9 none, Cond.fieldLink RX0 16 "VinegarLoft$Barrel" "litres" "D", Cond.fieldLink RX0 20 "VinegarLoft$Barrel" "age" "D", Cond.fieldLink RX0 23 "VinegarLoft$Barrel" "acid" "D", Cond.fieldLink RX0 26 "VinegarLoft$Barrel" "sugar" "D", Cond.methodLink RX0 29 yX0_mixed, Cond.static yX0_mixed]
def wsX1_passDown_r2 : List Cond := [Cond.code yX0_mixed cX0_mixed 10 (some .double), Cond.methodLink RX1 75 yX0_takeOut, Cond.instanceMethod yX0_takeOut, Cond.selects RX0 yX0_takeOut yX0_takeOut, Cond.code yX0_takeOut cX0_takeOut 3 none, Cond.methodLink RX0 33 yX0_clear, Cond.instanceMethod yX0_clear, Cond.selects RX0 yX0_clear yX0_clear, Cond.code yX0_clear cX0_clear 1 none]
def wsX1_passDown : List Cond := .code yX1_passDown cX1_passDown 4 (some .double) :: ((wsX1_passDown_r1 ++ wsX1_passDown_r2) ++ wsX10 ++ wsX00)
def wsX1_draughtNow : List Cond := .code yX1_draughtNow cX1_draughtNow 3 (some .double) :: ([.constantDouble RX1 96 (4587366580439587226), .fieldLink RX1 22 "VinegarLoft$Row" "warmth" "I", .constantDouble RX1 98 (4596373779694328218)] ++ wsX10)
def wsX1_eldest : List Cond := .code yX1_eldest cX1_eldest 5 (some .int) :: ([.fieldLink RX1 18 "VinegarLoft$Row" "count" "I", .fieldLink RX1 11 "VinegarLoft$Row" "line" "[LVinegarLoft$Barrel;", .fieldLink RX1 66 "VinegarLoft$Barrel" "age" "D", .methodLink RX1 83 yX0_isEmpty, .instanceMethod yX0_isEmpty, .selects RX0 yX0_isEmpty yX0_isEmpty, .initialized RX0, .code yX0_isEmpty cX0_isEmpty 1 (some .boolean), .fieldLink RX0 16 "VinegarLoft$Barrel" "litres" "D"] ++ wsX10 ++ wsX00)
def wsX1_ageAll_r1 : List Cond := [Cond.fieldLink RX1 18 "VinegarLoft$Row" "count" "I", Cond.fieldLink RX1 11 "VinegarLoft$Row" "line" "[LVinegarLoft$Barrel;", Cond.fieldLink RX1 25 "VinegarLoft$Row" "drawnFrom" "I", Cond.constantDouble RX1 94 (4598175219545276416), Cond.fieldLink RX1 49 "VinegarLoft$Barrel" "litres" "D", Cond.fieldLink RX1 28 "VinegarLoft$Row" "mayBeDrawn" "D", Cond.methodLink RX1 79 yX1_draughtNow, Cond.instanceMethod yX1_draughtNow, Cond.selects RX1 yX1_draughtNow yX1_draughtNow, Cond.initialized RX1, Cond.code yX1_draughtNow cX1_draughtNow 3 (some .double), Cond.constantDouble RX1 96 (4587366580439587226), Cond.fieldLink RX1 22 "VinegarLoft$Row" "warmth" "I", Cond.constantDouble RX1 98 (4596373779694328218), Cond.methodLink RX1 83 yX0_isEmpty, Cond.instanceMethod yX0_isEmpty, Cond.selects RX0 yX0_isEmpty yX0_isEmpty, Cond.initialized RX0, Cond.code yX0_isEmpty cX0_isEmpty 1 (some .boolean), Cond.fieldLink RX0 16 "VinegarLoft$Barrel" "litres" "D", Cond.methodLink RX1 86 yX0_spendYear, Cond.instanceMethod yX0_spendYear, Cond.selects RX0 yX0_spendYear yX0_spendYear, Cond.code yX0_spendYear cX0_spendYear 9 (some .double)]
def wsX1_ageAll_r2 : List Cond := [Cond.fieldLink RX0 7 "VinegarLoft$Barrel" "wood" "I", Cond.fieldLink RX0 26 "VinegarLoft$Barrel" "sugar" "D", Cond.constantDouble RX0 48 (4634626229029306368), Cond.fieldLink RX0 20 "VinegarLoft$Barrel" "age" "D", Cond.methodLink RX0 36 yX0_share, Cond.static yX0_share, Cond.code yX0_share cX0_share 1 (some .double), Cond.constantDouble RX0 71 (4581421828931458171), Cond.constantDouble RX0 73 (4584304132692975288), Cond.constantDouble RX0 75 (4585204852618449388), Cond.constantDouble RX0 77 (4582862980812216730), Cond.methodLink RX0 40 yX0_takeOut, Cond.instanceMethod yX0_takeOut, Cond.selects RX0 yX0_takeOut yX0_takeOut, Cond.code yX0_takeOut cX0_takeOut 3 none, Cond.methodLink RX0 33 yX0_clear, Cond.instanceMethod yX0_clear, Cond.selects RX0 yX0_clear yX0_clear, Cond.code yX0_clear cX0_clear 1 none, Cond.fieldLink RX0 23 "VinegarLoft$Barrel" "acid" "D", Cond.methodLink RX0 44 yX0_isEmpty, Cond.methodLink RX0 50 yX0_sour, Cond.instanceMethod yX0_sour, Cond.selects RX0 yX0_sour yX0_sour]
def wsX1_ageAll_r3 : List Cond := [Cond.code yX0_sour cX0_sour 3 none, Cond.constantDouble RX0 53 (4626322717216342016), Cond.constantDouble RX0 55 (4620693217682128896), Cond.constantDouble RX0 57 (4603579539098121011), Cond.constantDouble RX0 59 (4605380978949069210), Cond.constantDouble RX0 61 (4591870180066957722), Cond.constantDouble RX0 63 (4622945017495814144), Cond.methodLink RX1 90 yX1_eldest, Cond.instanceMethod yX1_eldest, Cond.selects RX1 yX1_eldest yX1_eldest, Cond.code yX1_eldest cX1_eldest 5 (some .int), Cond.fieldLink RX1 66 "VinegarLoft$Barrel" "age" "D"]
def wsX1_ageAll : List Cond := .code yX1_ageAll cX1_ageAll 6 (some .double) :: ((wsX1_ageAll_r1 ++ (wsX1_ageAll_r2 ++ wsX1_ageAll_r3)) ++ wsX10 ++ wsX00)
def wsX1_greatestAge : List Cond := .code yX1_greatestAge cX1_greatestAge 2 (some .double) :: ([.fieldLink RX1 11 "VinegarLoft$Row" "line" "[LVinegarLoft$Barrel;", .fieldLink RX1 66 "VinegarLoft$Barrel" "age" "D", .methodLink RX1 90 yX1_eldest, .instanceMethod yX1_eldest, .selects RX1 yX1_eldest yX1_eldest, .initialized RX1, .code yX1_eldest cX1_eldest 5 (some .int), .fieldLink RX1 18 "VinegarLoft$Row" "count" "I", .methodLink RX1 83 yX0_isEmpty, .instanceMethod yX0_isEmpty, .selects RX0 yX0_isEmpty yX0_isEmpty, .initialized RX0, .code yX0_isEmpty cX0_isEmpty 1 (some .boolean), .fieldLink RX0 16 "VinegarLoft$Barrel" "litres" "D"] ++ wsX10 ++ wsX00)
def wsX1_bottlesReady : List Cond := .code yX1_bottlesReady cX1_bottlesReady 5 (some .int) :: ([.fieldLink RX1 25 "VinegarLoft$Row" "drawnFrom" "I", .fieldLink RX1 11 "VinegarLoft$Row" "line" "[LVinegarLoft$Barrel;", .fieldLink RX1 66 "VinegarLoft$Barrel" "age" "D", .constantDouble RX1 100 (4622945017495814144), .fieldLink RX1 72 "VinegarLoft$Barrel" "sugar" "D", .constantDouble RX1 102 (4627730092099895296), .fieldLink RX1 28 "VinegarLoft$Row" "mayBeDrawn" "D", .fieldLink RX1 49 "VinegarLoft$Barrel" "litres" "D", .constantDouble RX1 104 (4591870180066957722), .methodLink RX1 90 yX1_eldest, .instanceMethod yX1_eldest, .selects RX1 yX1_eldest yX1_eldest, .initialized RX1, .code yX1_eldest cX1_eldest 5 (some .int), .fieldLink RX1 18 "VinegarLoft$Row" "count" "I", .methodLink RX1 83 yX0_isEmpty, .instanceMethod yX0_isEmpty, .selects RX0 yX0_isEmpty yX0_isEmpty, .initialized RX0, .code yX0_isEmpty cX0_isEmpty 1 (some .boolean), .fieldLink RX0 16 "VinegarLoft$Barrel" "litres" "D"] ++ wsX10 ++ wsX00)
def wsX1_takeBottles : List Cond := .code yX1_takeBottles cX1_takeBottles 4 none :: ([.fieldLink RX1 25 "VinegarLoft$Row" "drawnFrom" "I", .constantDouble RX1 104 (4591870180066957722), .fieldLink RX1 28 "VinegarLoft$Row" "mayBeDrawn" "D", .fieldLink RX1 11 "VinegarLoft$Row" "line" "[LVinegarLoft$Barrel;", .methodLink RX1 75 yX0_takeOut, .instanceMethod yX0_takeOut, .selects RX0 yX0_takeOut yX0_takeOut, .initialized RX0, .code yX0_takeOut cX0_takeOut 3 none, .fieldLink RX0 16 "VinegarLoft$Barrel" "litres" "D", .methodLink RX0 33 yX0_clear, .instanceMethod yX0_clear, .selects RX0 yX0_clear yX0_clear, .code yX0_clear cX0_clear 1 none, .fieldLink RX0 20 "VinegarLoft$Barrel" "age" "D", .fieldLink RX0 23 "VinegarLoft$Barrel" "acid" "D", .fieldLink RX0 26 "VinegarLoft$Barrel" "sugar" "D"] ++ wsX10 ++ wsX00)
def wsX1_allLitres : List Cond := .code yX1_allLitres cX1_allLitres 4 (some .double) :: ([.fieldLink RX1 18 "VinegarLoft$Row" "count" "I", .fieldLink RX1 11 "VinegarLoft$Row" "line" "[LVinegarLoft$Barrel;", .fieldLink RX1 49 "VinegarLoft$Barrel" "litres" "D"] ++ wsX10 ++ wsX00)
def wsX1_litresTimesAge : List Cond := .code yX1_litresTimesAge cX1_litresTimesAge 4 (some .double) :: ([.fieldLink RX1 18 "VinegarLoft$Row" "count" "I", .fieldLink RX1 11 "VinegarLoft$Row" "line" "[LVinegarLoft$Barrel;", .fieldLink RX1 49 "VinegarLoft$Barrel" "litres" "D", .fieldLink RX1 66 "VinegarLoft$Barrel" "age" "D"] ++ wsX10 ++ wsX00)
def wsX1_litresTimesSugar : List Cond := .code yX1_litresTimesSugar cX1_litresTimesSugar 4 (some .double) :: ([.fieldLink RX1 18 "VinegarLoft$Row" "count" "I", .fieldLink RX1 11 "VinegarLoft$Row" "line" "[LVinegarLoft$Barrel;", .fieldLink RX1 49 "VinegarLoft$Barrel" "litres" "D", .fieldLink RX1 72 "VinegarLoft$Barrel" "sugar" "D"] ++ wsX10 ++ wsX00)
def wsX2_init_r1 : List Cond := [Cond.methodLink RX2 1 objectInit, Cond.instanceMethod objectInit, Cond.code objectInit ⟨#[0xb1]⟩ 1 none, Cond.classLink RX2 7 RX1, Cond.instantiable RX1 5, Cond.initialized RX1, Cond.fieldLink RX2 10 "VinegarLoft" "row" "LVinegarLoft$Row;", Cond.fieldLink RX2 16 "VinegarLoft" "trial" "LVinegarLoft$Row;", Cond.arrayClass .int, Cond.fieldLink RX2 19 "VinegarLoft" "drawnByKind" "[I", Cond.fieldLink RX2 23 "VinegarLoft" "yearsGone" "I", Cond.methodLink RX2 9 yX1_init, Cond.instanceMethod yX1_init, Cond.code yX1_init cX1_init 2 none, Cond.methodLink RX1 3 objectInit, Cond.classLink RX1 9 RX0, Cond.fieldLink RX1 11 "VinegarLoft$Row" "line" "[LVinegarLoft$Barrel;", Cond.instantiable RX0 6, Cond.initialized RX0, Cond.fieldLink RX1 18 "VinegarLoft$Row" "count" "I", Cond.fieldLink RX1 22 "VinegarLoft$Row" "warmth" "I", Cond.fieldLink RX1 25 "VinegarLoft$Row" "drawnFrom" "I", Cond.fieldLink RX1 28 "VinegarLoft$Row" "mayBeDrawn" "D", Cond.instanceMethod yX0_init]
def wsX2_init_r2 : List Cond := [Cond.code yX0_init cX0_init 1 none, Cond.methodLink RX0 1 objectInit]
def wsX2_init : List Cond := .code yX2_init cX2_init 1 none :: ((wsX2_init_r1 ++ wsX2_init_r2) ++ wsX10 ++ wsX20 ++ wsX00)
def wsX2_add_r1 : List Cond := [Cond.classLink RX2 27 "java/lang/IllegalArgumentException", Cond.initialized "java/lang/IllegalArgumentException", Cond.classLink RX2 44 "java/lang/IllegalStateException", Cond.initialized "java/lang/IllegalStateException", Cond.fieldLink RX2 10 "VinegarLoft" "row" "LVinegarLoft$Row;", Cond.methodLink RX2 34 yX1_largestNext, Cond.instanceMethod yX1_largestNext, Cond.selects RX1 yX1_largestNext yX1_largestNext, Cond.initialized RX1, Cond.code yX1_largestNext cX1_largestNext 1 (some .int), Cond.fieldLink RX1 18 "VinegarLoft$Row" "count" "I", Cond.fieldLink RX1 11 "VinegarLoft$Row" "line" "[LVinegarLoft$Barrel;", Cond.fieldLink RX1 36 "VinegarLoft$Barrel" "size" "I", Cond.methodLink RX2 40 yX1_isComplete, Cond.instanceMethod yX1_isComplete, Cond.selects RX1 yX1_isComplete yX1_isComplete, Cond.code yX1_isComplete cX1_isComplete 1 (some .boolean), Cond.methodLink RX2 49 yX1_putBehind, Cond.instanceMethod yX1_putBehind, Cond.selects RX1 yX1_putBehind yX1_putBehind, Cond.code yX1_putBehind cX1_putBehind 4 (some .int), Cond.fieldLink RX1 43 "VinegarLoft$Barrel" "wood" "I", Cond.methodLink RX1 39 yX1_isComplete, Cond.methodLink RX1 46 yX0_clear]
def wsX2_add_r2 : List Cond := [Cond.instanceMethod yX0_clear, Cond.selects RX0 yX0_clear yX0_clear, Cond.initialized RX0, Cond.code yX0_clear cX0_clear 1 none, Cond.fieldLink RX0 16 "VinegarLoft$Barrel" "litres" "D", Cond.fieldLink RX0 20 "VinegarLoft$Barrel" "age" "D", Cond.fieldLink RX0 23 "VinegarLoft$Barrel" "acid" "D", Cond.fieldLink RX0 26 "VinegarLoft$Barrel" "sugar" "D"]
def wsX2_add : List Cond := .code yX2_add cX2_add 3 (some .int) :: ((wsX2_add_r1 ++ wsX2_add_r2) ++ wsX20 ++ wsX10 ++ wsX00 ++ (vx_atS RX2 31 "java/lang/IllegalArgumentException" ["java/lang/RuntimeException", "java/lang/Exception"]).filter goodWord ++ (vx_atS RX2 48 "java/lang/IllegalStateException" ["java/lang/RuntimeException", "java/lang/Exception"]).filter goodWord)
def wsX2_fill_r1 : List Cond := [Cond.classLink RX2 27 "java/lang/IllegalArgumentException", Cond.initialized "java/lang/IllegalArgumentException", Cond.fieldLink RX2 10 "VinegarLoft" "row" "LVinegarLoft$Row;", Cond.methodLink RX2 55 yX1_pourMust, Cond.instanceMethod yX1_pourMust, Cond.selects RX1 yX1_pourMust yX1_pourMust, Cond.initialized RX1, Cond.code yX1_pourMust cX1_pourMust 7 (some .double), Cond.fieldLink RX1 18 "VinegarLoft$Row" "count" "I", Cond.fieldLink RX1 11 "VinegarLoft$Row" "line" "[LVinegarLoft$Barrel;", Cond.fieldLink RX1 36 "VinegarLoft$Barrel" "size" "I", Cond.fieldLink RX1 49 "VinegarLoft$Barrel" "litres" "D", Cond.constantDouble RX1 52 (4629137466983448576), Cond.methodLink RX1 54 yX0_mixIn, Cond.instanceMethod yX0_mixIn, Cond.selects RX0 yX0_mixIn yX0_mixIn, Cond.initialized RX0, Cond.code yX0_mixIn cX0_mixIn 9 none, Cond.fieldLink RX0 16 "VinegarLoft$Barrel" "litres" "D", Cond.fieldLink RX0 20 "VinegarLoft$Barrel" "age" "D", Cond.fieldLink RX0 23 "VinegarLoft$Barrel" "acid" "D", Cond.fieldLink RX0 26 "VinegarLoft$Barrel" "sugar" "D", Cond.methodLink RX0 29 yX0_mixed, Cond.static yX0_mixed]
def wsX2_fill_r2 : List Cond := [Cond.code yX0_mixed cX0_mixed 10 (some .double)]
def wsX2_fill : List Cond := .code yX2_fill cX2_fill 2 (some .double) :: ((wsX2_fill_r1 ++ wsX2_fill_r2) ++ wsX20 ++ wsX10 ++ wsX00 ++ (vx_atS RX2 31 "java/lang/IllegalArgumentException" ["java/lang/RuntimeException", "java/lang/Exception"]).filter goodWord)
def wsX2_topUp_r1 : List Cond := [Cond.fieldLink RX2 10 "VinegarLoft" "row" "LVinegarLoft$Row;", Cond.methodLink RX2 59 yX1_passDown, Cond.instanceMethod yX1_passDown, Cond.selects RX1 yX1_passDown yX1_passDown, Cond.initialized RX1, Cond.code yX1_passDown cX1_passDown 4 (some .double), Cond.fieldLink RX1 18 "VinegarLoft$Row" "count" "I", Cond.fieldLink RX1 11 "VinegarLoft$Row" "line" "[LVinegarLoft$Barrel;", Cond.methodLink RX1 58 yX1_passBetween, Cond.static yX1_passBetween, Cond.code yX1_passBetween cX1_passBetween 8 (some .double), Cond.constantDouble RX1 62 (4606281698874543309), Cond.fieldLink RX1 36 "VinegarLoft$Barrel" "size" "I", Cond.fieldLink RX1 49 "VinegarLoft$Barrel" "litres" "D", Cond.constantDouble RX1 64 (4602678819172646912), Cond.fieldLink RX1 66 "VinegarLoft$Barrel" "age" "D", Cond.fieldLink RX1 69 "VinegarLoft$Barrel" "acid" "D", Cond.fieldLink RX1 72 "VinegarLoft$Barrel" "sugar" "D", Cond.methodLink RX1 54 yX0_mixIn, Cond.instanceMethod yX0_mixIn, Cond.selects RX0 yX0_mixIn yX0_mixIn, Cond.initialized RX0, Cond.code yX0_mixIn cX0_mixIn 9 none, Cond.fieldLink RX0 16 "VinegarLoft$Barrel" "litres" "D"]
def wsX2_topUp_r2 : List Cond := [Cond.fieldLink RX0 20 "VinegarLoft$Barrel" "age" "D", Cond.fieldLink RX0 23 "VinegarLoft$Barrel" "acid" "D", Cond.fieldLink RX0 26 "VinegarLoft$Barrel" "sugar" "D", Cond.methodLink RX0 29 yX0_mixed, Cond.static yX0_mixed, Cond.code yX0_mixed cX0_mixed 10 (some .double), Cond.methodLink RX1 75 yX0_takeOut, Cond.instanceMethod yX0_takeOut, Cond.selects RX0 yX0_takeOut yX0_takeOut, Cond.code yX0_takeOut cX0_takeOut 3 none, Cond.methodLink RX0 33 yX0_clear, Cond.instanceMethod yX0_clear, Cond.selects RX0 yX0_clear yX0_clear, Cond.code yX0_clear cX0_clear 1 none]
def wsX2_topUp : List Cond := .code yX2_topUp cX2_topUp 1 (some .double) :: ((wsX2_topUp_r1 ++ wsX2_topUp_r2) ++ wsX20 ++ wsX10 ++ wsX00)
def wsX2_year_r1 : List Cond := [Cond.fieldLink RX2 23 "VinegarLoft" "yearsGone" "I", Cond.fieldLink RX2 10 "VinegarLoft" "row" "LVinegarLoft$Row;", Cond.methodLink RX2 63 yX1_ageAll, Cond.instanceMethod yX1_ageAll, Cond.selects RX1 yX1_ageAll yX1_ageAll, Cond.initialized RX1, Cond.code yX1_ageAll cX1_ageAll 6 (some .double), Cond.fieldLink RX1 18 "VinegarLoft$Row" "count" "I", Cond.fieldLink RX1 11 "VinegarLoft$Row" "line" "[LVinegarLoft$Barrel;", Cond.fieldLink RX1 25 "VinegarLoft$Row" "drawnFrom" "I", Cond.constantDouble RX1 94 (4598175219545276416), Cond.fieldLink RX1 49 "VinegarLoft$Barrel" "litres" "D", Cond.fieldLink RX1 28 "VinegarLoft$Row" "mayBeDrawn" "D", Cond.methodLink RX1 79 yX1_draughtNow, Cond.instanceMethod yX1_draughtNow, Cond.selects RX1 yX1_draughtNow yX1_draughtNow, Cond.code yX1_draughtNow cX1_draughtNow 3 (some .double), Cond.constantDouble RX1 96 (4587366580439587226), Cond.fieldLink RX1 22 "VinegarLoft$Row" "warmth" "I", Cond.constantDouble RX1 98 (4596373779694328218), Cond.methodLink RX1 83 yX0_isEmpty, Cond.instanceMethod yX0_isEmpty, Cond.selects RX0 yX0_isEmpty yX0_isEmpty, Cond.initialized RX0]
def wsX2_year_r2 : List Cond := [Cond.code yX0_isEmpty cX0_isEmpty 1 (some .boolean), Cond.fieldLink RX0 16 "VinegarLoft$Barrel" "litres" "D", Cond.methodLink RX1 86 yX0_spendYear, Cond.instanceMethod yX0_spendYear, Cond.selects RX0 yX0_spendYear yX0_spendYear, Cond.code yX0_spendYear cX0_spendYear 9 (some .double), Cond.fieldLink RX0 7 "VinegarLoft$Barrel" "wood" "I", Cond.fieldLink RX0 26 "VinegarLoft$Barrel" "sugar" "D", Cond.constantDouble RX0 48 (4634626229029306368), Cond.fieldLink RX0 20 "VinegarLoft$Barrel" "age" "D", Cond.methodLink RX0 36 yX0_share, Cond.static yX0_share, Cond.code yX0_share cX0_share 1 (some .double), Cond.constantDouble RX0 71 (4581421828931458171), Cond.constantDouble RX0 73 (4584304132692975288), Cond.constantDouble RX0 75 (4585204852618449388), Cond.constantDouble RX0 77 (4582862980812216730), Cond.methodLink RX0 40 yX0_takeOut, Cond.instanceMethod yX0_takeOut, Cond.selects RX0 yX0_takeOut yX0_takeOut, Cond.code yX0_takeOut cX0_takeOut 3 none, Cond.methodLink RX0 33 yX0_clear, Cond.instanceMethod yX0_clear, Cond.selects RX0 yX0_clear yX0_clear]
def wsX2_year_r3 : List Cond := [Cond.code yX0_clear cX0_clear 1 none, Cond.fieldLink RX0 23 "VinegarLoft$Barrel" "acid" "D", Cond.methodLink RX0 44 yX0_isEmpty, Cond.methodLink RX0 50 yX0_sour, Cond.instanceMethod yX0_sour, Cond.selects RX0 yX0_sour yX0_sour, Cond.code yX0_sour cX0_sour 3 none, Cond.constantDouble RX0 53 (4626322717216342016), Cond.constantDouble RX0 55 (4620693217682128896), Cond.constantDouble RX0 57 (4603579539098121011), Cond.constantDouble RX0 59 (4605380978949069210), Cond.constantDouble RX0 61 (4591870180066957722), Cond.constantDouble RX0 63 (4622945017495814144), Cond.methodLink RX1 90 yX1_eldest, Cond.instanceMethod yX1_eldest, Cond.selects RX1 yX1_eldest yX1_eldest, Cond.code yX1_eldest cX1_eldest 5 (some .int), Cond.fieldLink RX1 66 "VinegarLoft$Barrel" "age" "D"]
def wsX2_year : List Cond := .code yX2_year cX2_year 1 (some .double) :: ((wsX2_year_r1 ++ (wsX2_year_r2 ++ wsX2_year_r3)) ++ wsX20 ++ wsX10 ++ wsX00)
def wsX2_kindAt : List Cond := .code yX2_kindAt cX2_kindAt 2 (some .int) :: ([.constantDouble RX2 142 (4625759767262920704), .constantDouble RX2 144 (4627730092099895296)])
def wsX2_draw_r1 : List Cond := [Cond.classLink RX2 27 "java/lang/IllegalArgumentException", Cond.initialized "java/lang/IllegalArgumentException", Cond.fieldLink RX2 10 "VinegarLoft" "row" "LVinegarLoft$Row;", Cond.fieldLink RX2 19 "VinegarLoft" "drawnByKind" "[I", Cond.methodLink RX2 68 yX1_bottlesReady, Cond.instanceMethod yX1_bottlesReady, Cond.selects RX1 yX1_bottlesReady yX1_bottlesReady, Cond.initialized RX1, Cond.code yX1_bottlesReady cX1_bottlesReady 5 (some .int), Cond.fieldLink RX1 25 "VinegarLoft$Row" "drawnFrom" "I", Cond.fieldLink RX1 11 "VinegarLoft$Row" "line" "[LVinegarLoft$Barrel;", Cond.fieldLink RX1 66 "VinegarLoft$Barrel" "age" "D", Cond.constantDouble RX1 100 (4622945017495814144), Cond.fieldLink RX1 72 "VinegarLoft$Barrel" "sugar" "D", Cond.constantDouble RX1 102 (4627730092099895296), Cond.fieldLink RX1 28 "VinegarLoft$Row" "mayBeDrawn" "D", Cond.fieldLink RX1 49 "VinegarLoft$Barrel" "litres" "D", Cond.constantDouble RX1 104 (4591870180066957722), Cond.methodLink RX1 90 yX1_eldest, Cond.instanceMethod yX1_eldest, Cond.selects RX1 yX1_eldest yX1_eldest, Cond.code yX1_eldest cX1_eldest 5 (some .int), Cond.fieldLink RX1 18 "VinegarLoft$Row" "count" "I", Cond.methodLink RX1 83 yX0_isEmpty]
def wsX2_draw_r2 : List Cond := [Cond.instanceMethod yX0_isEmpty, Cond.selects RX0 yX0_isEmpty yX0_isEmpty, Cond.initialized RX0, Cond.code yX0_isEmpty cX0_isEmpty 1 (some .boolean), Cond.fieldLink RX0 16 "VinegarLoft$Barrel" "litres" "D", Cond.methodLink RX2 71 yX1_greatestAge, Cond.instanceMethod yX1_greatestAge, Cond.selects RX1 yX1_greatestAge yX1_greatestAge, Cond.code yX1_greatestAge cX1_greatestAge 2 (some .double), Cond.methodLink RX2 74 yX2_kindAt, Cond.static yX2_kindAt, Cond.initialized RX2, Cond.code yX2_kindAt cX2_kindAt 2 (some .int), Cond.constantDouble RX2 142 (4625759767262920704), Cond.constantDouble RX2 144 (4627730092099895296), Cond.methodLink RX2 78 yX1_takeBottles, Cond.instanceMethod yX1_takeBottles, Cond.selects RX1 yX1_takeBottles yX1_takeBottles, Cond.code yX1_takeBottles cX1_takeBottles 4 none, Cond.methodLink RX1 75 yX0_takeOut, Cond.instanceMethod yX0_takeOut, Cond.selects RX0 yX0_takeOut yX0_takeOut, Cond.code yX0_takeOut cX0_takeOut 3 none, Cond.methodLink RX0 33 yX0_clear]
def wsX2_draw_r3 : List Cond := [Cond.instanceMethod yX0_clear, Cond.selects RX0 yX0_clear yX0_clear, Cond.code yX0_clear cX0_clear 1 none, Cond.fieldLink RX0 20 "VinegarLoft$Barrel" "age" "D", Cond.fieldLink RX0 23 "VinegarLoft$Barrel" "acid" "D", Cond.fieldLink RX0 26 "VinegarLoft$Barrel" "sugar" "D"]
def wsX2_draw : List Cond := .code yX2_draw cX2_draw 4 (some .int) :: ((wsX2_draw_r1 ++ (wsX2_draw_r2 ++ wsX2_draw_r3)) ++ wsX20 ++ wsX10 ++ wsX00 ++ (vx_atS RX2 31 "java/lang/IllegalArgumentException" ["java/lang/RuntimeException", "java/lang/Exception"]).filter goodWord)
def wsX2_barrelNumbered : List Cond := .code yX2_barrelNumbered cX2_barrelNumbered 2 (some (.object "VinegarLoft$Barrel")) :: ([.classLink RX2 133 "java/lang/IndexOutOfBoundsException", .initialized "java/lang/IndexOutOfBoundsException", .fieldLink RX2 10 "VinegarLoft" "row" "LVinegarLoft$Row;", .fieldLink RX2 100 "VinegarLoft$Row" "count" "I", .fieldLink RX2 138 "VinegarLoft$Row" "line" "[LVinegarLoft$Barrel;"] ++ wsX20 ++ wsX10 ++ (vx_atS RX2 137 "java/lang/IndexOutOfBoundsException" ["java/lang/RuntimeException", "java/lang/Exception"]).filter goodWord)
def wsX2_pourAway : List Cond := .code yX2_pourAway cX2_pourAway 5 (some .double) :: ([.fieldLink RX2 86 "VinegarLoft$Barrel" "litres" "D", .methodLink RX2 82 yX2_barrelNumbered, .instanceMethod yX2_barrelNumbered, .selects RX2 yX2_barrelNumbered yX2_barrelNumbered, .initialized RX2, .code yX2_barrelNumbered cX2_barrelNumbered 2 (some (.object "VinegarLoft$Barrel")), .classLink RX2 133 "java/lang/IndexOutOfBoundsException", .initialized "java/lang/IndexOutOfBoundsException", .fieldLink RX2 10 "VinegarLoft" "row" "LVinegarLoft$Row;", .fieldLink RX2 100 "VinegarLoft$Row" "count" "I", .fieldLink RX2 138 "VinegarLoft$Row" "line" "[LVinegarLoft$Barrel;", .methodLink RX2 92 yX0_clear, .instanceMethod yX0_clear, .selects RX0 yX0_clear yX0_clear, .initialized RX0, .code yX0_clear cX0_clear 1 none, .fieldLink RX0 16 "VinegarLoft$Barrel" "litres" "D", .fieldLink RX0 20 "VinegarLoft$Barrel" "age" "D", .fieldLink RX0 23 "VinegarLoft$Barrel" "acid" "D", .fieldLink RX0 26 "VinegarLoft$Barrel" "sugar" "D"] ++ wsX00 ++ wsX20 ++ wsX10 ++ (vx_atS RX2 137 "java/lang/IndexOutOfBoundsException" ["java/lang/RuntimeException", "java/lang/Exception"]).filter goodWord)
def wsX2_setWarmth : List Cond := .code yX2_setWarmth cX2_setWarmth 2 none :: ([.classLink RX2 27 "java/lang/IllegalArgumentException", .initialized "java/lang/IllegalArgumentException", .fieldLink RX2 10 "VinegarLoft" "row" "LVinegarLoft$Row;", .fieldLink RX2 97 "VinegarLoft$Row" "warmth" "I"] ++ wsX20 ++ wsX10 ++ (vx_atS RX2 31 "java/lang/IllegalArgumentException" ["java/lang/RuntimeException", "java/lang/Exception"]).filter goodWord)
def wsX2_barrels : List Cond := .code yX2_barrels cX2_barrels 1 (some .int) :: ([.fieldLink RX2 10 "VinegarLoft" "row" "LVinegarLoft$Row;", .fieldLink RX2 100 "VinegarLoft$Row" "count" "I"] ++ wsX20 ++ wsX10)
def wsX2_litresIn : List Cond := .code yX2_litresIn cX2_litresIn 2 (some .double) :: ([.fieldLink RX2 86 "VinegarLoft$Barrel" "litres" "D", .methodLink RX2 82 yX2_barrelNumbered, .instanceMethod yX2_barrelNumbered, .selects RX2 yX2_barrelNumbered yX2_barrelNumbered, .initialized RX2, .code yX2_barrelNumbered cX2_barrelNumbered 2 (some (.object "VinegarLoft$Barrel")), .classLink RX2 133 "java/lang/IndexOutOfBoundsException", .initialized "java/lang/IndexOutOfBoundsException", .fieldLink RX2 10 "VinegarLoft" "row" "LVinegarLoft$Row;", .fieldLink RX2 100 "VinegarLoft$Row" "count" "I", .fieldLink RX2 138 "VinegarLoft$Row" "line" "[LVinegarLoft$Barrel;"] ++ wsX00 ++ wsX20 ++ wsX10 ++ (vx_atS RX2 137 "java/lang/IndexOutOfBoundsException" ["java/lang/RuntimeException", "java/lang/Exception"]).filter goodWord)
def wsX2_ageOf : List Cond := .code yX2_ageOf cX2_ageOf 2 (some .double) :: ([.fieldLink RX2 103 "VinegarLoft$Barrel" "age" "D", .methodLink RX2 82 yX2_barrelNumbered, .instanceMethod yX2_barrelNumbered, .selects RX2 yX2_barrelNumbered yX2_barrelNumbered, .initialized RX2, .code yX2_barrelNumbered cX2_barrelNumbered 2 (some (.object "VinegarLoft$Barrel")), .classLink RX2 133 "java/lang/IndexOutOfBoundsException", .initialized "java/lang/IndexOutOfBoundsException", .fieldLink RX2 10 "VinegarLoft" "row" "LVinegarLoft$Row;", .fieldLink RX2 100 "VinegarLoft$Row" "count" "I", .fieldLink RX2 138 "VinegarLoft$Row" "line" "[LVinegarLoft$Barrel;"] ++ wsX00 ++ wsX20 ++ wsX10 ++ (vx_atS RX2 137 "java/lang/IndexOutOfBoundsException" ["java/lang/RuntimeException", "java/lang/Exception"]).filter goodWord)
def wsX2_acidOf : List Cond := .code yX2_acidOf cX2_acidOf 2 (some .double) :: ([.fieldLink RX2 106 "VinegarLoft$Barrel" "acid" "D", .methodLink RX2 82 yX2_barrelNumbered, .instanceMethod yX2_barrelNumbered, .selects RX2 yX2_barrelNumbered yX2_barrelNumbered, .initialized RX2, .code yX2_barrelNumbered cX2_barrelNumbered 2 (some (.object "VinegarLoft$Barrel")), .classLink RX2 133 "java/lang/IndexOutOfBoundsException", .initialized "java/lang/IndexOutOfBoundsException", .fieldLink RX2 10 "VinegarLoft" "row" "LVinegarLoft$Row;", .fieldLink RX2 100 "VinegarLoft$Row" "count" "I", .fieldLink RX2 138 "VinegarLoft$Row" "line" "[LVinegarLoft$Barrel;"] ++ wsX00 ++ wsX20 ++ wsX10 ++ (vx_atS RX2 137 "java/lang/IndexOutOfBoundsException" ["java/lang/RuntimeException", "java/lang/Exception"]).filter goodWord)
def wsX2_sugarOf : List Cond := .code yX2_sugarOf cX2_sugarOf 2 (some .double) :: ([.fieldLink RX2 109 "VinegarLoft$Barrel" "sugar" "D", .methodLink RX2 82 yX2_barrelNumbered, .instanceMethod yX2_barrelNumbered, .selects RX2 yX2_barrelNumbered yX2_barrelNumbered, .initialized RX2, .code yX2_barrelNumbered cX2_barrelNumbered 2 (some (.object "VinegarLoft$Barrel")), .classLink RX2 133 "java/lang/IndexOutOfBoundsException", .initialized "java/lang/IndexOutOfBoundsException", .fieldLink RX2 10 "VinegarLoft" "row" "LVinegarLoft$Row;", .fieldLink RX2 100 "VinegarLoft$Row" "count" "I", .fieldLink RX2 138 "VinegarLoft$Row" "line" "[LVinegarLoft$Barrel;"] ++ wsX00 ++ wsX20 ++ wsX10 ++ (vx_atS RX2 137 "java/lang/IndexOutOfBoundsException" ["java/lang/RuntimeException", "java/lang/Exception"]).filter goodWord)
def wsX2_tasteOf_r1 : List Cond := [Cond.methodLink RX2 82 yX2_barrelNumbered, Cond.instanceMethod yX2_barrelNumbered, Cond.selects RX2 yX2_barrelNumbered yX2_barrelNumbered, Cond.initialized RX2, Cond.code yX2_barrelNumbered cX2_barrelNumbered 2 (some (.object "VinegarLoft$Barrel")), Cond.classLink RX2 133 "java/lang/IndexOutOfBoundsException", Cond.initialized "java/lang/IndexOutOfBoundsException", Cond.fieldLink RX2 10 "VinegarLoft" "row" "LVinegarLoft$Row;", Cond.fieldLink RX2 100 "VinegarLoft$Row" "count" "I", Cond.fieldLink RX2 138 "VinegarLoft$Row" "line" "[LVinegarLoft$Barrel;", Cond.methodLink RX2 112 yX0_taste, Cond.instanceMethod yX0_taste, Cond.selects RX0 yX0_taste yX0_taste, Cond.initialized RX0, Cond.code yX0_taste cX0_taste 5 (some .double), Cond.fieldLink RX0 23 "VinegarLoft$Barrel" "acid" "D", Cond.constantDouble RX0 65 (4618441417868443648), Cond.constantDouble RX0 67 (4602678819172646912), Cond.fieldLink RX0 20 "VinegarLoft$Barrel" "age" "D", Cond.constantDouble RX0 59 (4605380978949069210), Cond.fieldLink RX0 26 "VinegarLoft$Barrel" "sugar" "D", Cond.constantDouble RX0 69 (4613937818241073152), Cond.methodLink RX0 44 yX0_isEmpty, Cond.instanceMethod yX0_isEmpty]
def wsX2_tasteOf_r2 : List Cond := [Cond.selects RX0 yX0_isEmpty yX0_isEmpty, Cond.code yX0_isEmpty cX0_isEmpty 1 (some .boolean), Cond.fieldLink RX0 16 "VinegarLoft$Barrel" "litres" "D"]
def wsX2_tasteOf : List Cond := .code yX2_tasteOf cX2_tasteOf 2 (some .double) :: ((wsX2_tasteOf_r1 ++ wsX2_tasteOf_r2) ++ wsX20 ++ wsX10 ++ wsX00 ++ (vx_atS RX2 137 "java/lang/IndexOutOfBoundsException" ["java/lang/RuntimeException", "java/lang/Exception"]).filter goodWord)
def wsX2_oldest : List Cond := .code yX2_oldest cX2_oldest 1 (some .int) :: ([.fieldLink RX2 10 "VinegarLoft" "row" "LVinegarLoft$Row;", .methodLink RX2 115 yX1_eldest, .instanceMethod yX1_eldest, .selects RX1 yX1_eldest yX1_eldest, .initialized RX1, .code yX1_eldest cX1_eldest 5 (some .int), .fieldLink RX1 18 "VinegarLoft$Row" "count" "I", .fieldLink RX1 11 "VinegarLoft$Row" "line" "[LVinegarLoft$Barrel;", .fieldLink RX1 66 "VinegarLoft$Barrel" "age" "D", .methodLink RX1 83 yX0_isEmpty, .instanceMethod yX0_isEmpty, .selects RX0 yX0_isEmpty yX0_isEmpty, .initialized RX0, .code yX0_isEmpty cX0_isEmpty 1 (some .boolean), .fieldLink RX0 16 "VinegarLoft$Barrel" "litres" "D"] ++ wsX20 ++ wsX10 ++ wsX00)
def wsX2_drawable_r1 : List Cond := [Cond.fieldLink RX2 10 "VinegarLoft" "row" "LVinegarLoft$Row;", Cond.methodLink RX2 68 yX1_bottlesReady, Cond.instanceMethod yX1_bottlesReady, Cond.selects RX1 yX1_bottlesReady yX1_bottlesReady, Cond.initialized RX1, Cond.code yX1_bottlesReady cX1_bottlesReady 5 (some .int), Cond.fieldLink RX1 25 "VinegarLoft$Row" "drawnFrom" "I", Cond.fieldLink RX1 11 "VinegarLoft$Row" "line" "[LVinegarLoft$Barrel;", Cond.fieldLink RX1 66 "VinegarLoft$Barrel" "age" "D", Cond.constantDouble RX1 100 (4622945017495814144), Cond.fieldLink RX1 72 "VinegarLoft$Barrel" "sugar" "D", Cond.constantDouble RX1 102 (4627730092099895296), Cond.fieldLink RX1 28 "VinegarLoft$Row" "mayBeDrawn" "D", Cond.fieldLink RX1 49 "VinegarLoft$Barrel" "litres" "D", Cond.constantDouble RX1 104 (4591870180066957722), Cond.methodLink RX1 90 yX1_eldest, Cond.instanceMethod yX1_eldest, Cond.selects RX1 yX1_eldest yX1_eldest, Cond.code yX1_eldest cX1_eldest 5 (some .int), Cond.fieldLink RX1 18 "VinegarLoft$Row" "count" "I", Cond.methodLink RX1 83 yX0_isEmpty, Cond.instanceMethod yX0_isEmpty, Cond.selects RX0 yX0_isEmpty yX0_isEmpty, Cond.initialized RX0]
def wsX2_drawable_r2 : List Cond := [Cond.code yX0_isEmpty cX0_isEmpty 1 (some .boolean), Cond.fieldLink RX0 16 "VinegarLoft$Barrel" "litres" "D"]
def wsX2_drawable : List Cond := .code yX2_drawable cX2_drawable 1 (some .int) :: ((wsX2_drawable_r1 ++ wsX2_drawable_r2) ++ wsX20 ++ wsX10 ++ wsX00)
def wsX2_bottles : List Cond := .code yX2_bottles cX2_bottles 2 (some .int) :: ([.classLink RX2 27 "java/lang/IllegalArgumentException", .initialized "java/lang/IllegalArgumentException", .fieldLink RX2 19 "VinegarLoft" "drawnByKind" "[I"] ++ wsX20 ++ (vx_atS RX2 31 "java/lang/IllegalArgumentException" ["java/lang/RuntimeException", "java/lang/Exception"]).filter goodWord)
def wsX2_years : List Cond := .code yX2_years cX2_years 1 (some .int) :: ([.fieldLink RX2 23 "VinegarLoft" "yearsGone" "I"] ++ wsX20)
def wsX2_meanAge : List Cond := .code yX2_meanAge cX2_meanAge 3 (some .double) :: ([.fieldLink RX2 10 "VinegarLoft" "row" "LVinegarLoft$Row;", .methodLink RX2 120 yX1_allLitres, .instanceMethod yX1_allLitres, .selects RX1 yX1_allLitres yX1_allLitres, .initialized RX1, .code yX1_allLitres cX1_allLitres 4 (some .double), .fieldLink RX1 18 "VinegarLoft$Row" "count" "I", .fieldLink RX1 11 "VinegarLoft$Row" "line" "[LVinegarLoft$Barrel;", .fieldLink RX1 49 "VinegarLoft$Barrel" "litres" "D", .methodLink RX2 123 yX1_litresTimesAge, .instanceMethod yX1_litresTimesAge, .selects RX1 yX1_litresTimesAge yX1_litresTimesAge, .code yX1_litresTimesAge cX1_litresTimesAge 4 (some .double), .fieldLink RX1 66 "VinegarLoft$Barrel" "age" "D"] ++ wsX20 ++ wsX10 ++ wsX00)
def wsX2_meanSugar : List Cond := .code yX2_meanSugar cX2_meanSugar 3 (some .double) :: ([.fieldLink RX2 10 "VinegarLoft" "row" "LVinegarLoft$Row;", .methodLink RX2 120 yX1_allLitres, .instanceMethod yX1_allLitres, .selects RX1 yX1_allLitres yX1_allLitres, .initialized RX1, .code yX1_allLitres cX1_allLitres 4 (some .double), .fieldLink RX1 18 "VinegarLoft$Row" "count" "I", .fieldLink RX1 11 "VinegarLoft$Row" "line" "[LVinegarLoft$Barrel;", .fieldLink RX1 49 "VinegarLoft$Barrel" "litres" "D", .methodLink RX2 126 yX1_litresTimesSugar, .instanceMethod yX1_litresTimesSugar, .selects RX1 yX1_litresTimesSugar yX1_litresTimesSugar, .code yX1_litresTimesSugar cX1_litresTimesSugar 4 (some .double), .fieldLink RX1 72 "VinegarLoft$Barrel" "sugar" "D"] ++ wsX20 ++ wsX10 ++ wsX00)
def wsX2_firstBottleIn_r1 : List Cond := [Cond.fieldLink RX2 10 "VinegarLoft" "row" "LVinegarLoft$Row;", Cond.fieldLink RX2 16 "VinegarLoft" "trial" "LVinegarLoft$Row;", Cond.methodLink RX2 68 yX1_bottlesReady, Cond.instanceMethod yX1_bottlesReady, Cond.selects RX1 yX1_bottlesReady yX1_bottlesReady, Cond.initialized RX1, Cond.code yX1_bottlesReady cX1_bottlesReady 5 (some .int), Cond.fieldLink RX1 25 "VinegarLoft$Row" "drawnFrom" "I", Cond.fieldLink RX1 11 "VinegarLoft$Row" "line" "[LVinegarLoft$Barrel;", Cond.fieldLink RX1 66 "VinegarLoft$Barrel" "age" "D", Cond.constantDouble RX1 100 (4622945017495814144), Cond.fieldLink RX1 72 "VinegarLoft$Barrel" "sugar" "D", Cond.constantDouble RX1 102 (4627730092099895296), Cond.fieldLink RX1 28 "VinegarLoft$Row" "mayBeDrawn" "D", Cond.fieldLink RX1 49 "VinegarLoft$Barrel" "litres" "D", Cond.constantDouble RX1 104 (4591870180066957722), Cond.methodLink RX1 90 yX1_eldest, Cond.instanceMethod yX1_eldest, Cond.selects RX1 yX1_eldest yX1_eldest, Cond.code yX1_eldest cX1_eldest 5 (some .int), Cond.fieldLink RX1 18 "VinegarLoft$Row" "count" "I", Cond.methodLink RX1 83 yX0_isEmpty, Cond.instanceMethod yX0_isEmpty, Cond.selects RX0 yX0_isEmpty yX0_isEmpty]
def wsX2_firstBottleIn_r2 : List Cond := [Cond.initialized RX0, Cond.code yX0_isEmpty cX0_isEmpty 1 (some .boolean), Cond.fieldLink RX0 16 "VinegarLoft$Barrel" "litres" "D", Cond.methodLink RX2 129 yX1_copyFrom, Cond.instanceMethod yX1_copyFrom, Cond.selects RX1 yX1_copyFrom yX1_copyFrom, Cond.code yX1_copyFrom cX1_copyFrom 3 none, Cond.fieldLink RX1 22 "VinegarLoft$Row" "warmth" "I", Cond.methodLink RX1 32 yX0_copyFrom, Cond.instanceMethod yX0_copyFrom, Cond.selects RX0 yX0_copyFrom yX0_copyFrom, Cond.code yX0_copyFrom cX0_copyFrom 2 none, Cond.fieldLink RX0 7 "VinegarLoft$Barrel" "wood" "I", Cond.fieldLink RX0 13 "VinegarLoft$Barrel" "size" "I", Cond.fieldLink RX0 20 "VinegarLoft$Barrel" "age" "D", Cond.fieldLink RX0 23 "VinegarLoft$Barrel" "acid" "D", Cond.fieldLink RX0 26 "VinegarLoft$Barrel" "sugar" "D", Cond.methodLink RX2 55 yX1_pourMust, Cond.instanceMethod yX1_pourMust, Cond.selects RX1 yX1_pourMust yX1_pourMust, Cond.code yX1_pourMust cX1_pourMust 7 (some .double), Cond.fieldLink RX1 36 "VinegarLoft$Barrel" "size" "I", Cond.constantDouble RX1 52 (4629137466983448576), Cond.methodLink RX1 54 yX0_mixIn]
def wsX2_firstBottleIn_r3 : List Cond := [Cond.instanceMethod yX0_mixIn, Cond.selects RX0 yX0_mixIn yX0_mixIn, Cond.code yX0_mixIn cX0_mixIn 9 none, Cond.methodLink RX0 29 yX0_mixed, Cond.static yX0_mixed, Cond.code yX0_mixed cX0_mixed 10 (some .double), Cond.methodLink RX2 59 yX1_passDown, Cond.instanceMethod yX1_passDown, Cond.selects RX1 yX1_passDown yX1_passDown, Cond.code yX1_passDown cX1_passDown 4 (some .double), Cond.methodLink RX1 58 yX1_passBetween, Cond.static yX1_passBetween, Cond.code yX1_passBetween cX1_passBetween 8 (some .double), Cond.constantDouble RX1 62 (4606281698874543309), Cond.constantDouble RX1 64 (4602678819172646912), Cond.fieldLink RX1 69 "VinegarLoft$Barrel" "acid" "D", Cond.methodLink RX1 75 yX0_takeOut, Cond.instanceMethod yX0_takeOut, Cond.selects RX0 yX0_takeOut yX0_takeOut, Cond.code yX0_takeOut cX0_takeOut 3 none, Cond.methodLink RX0 33 yX0_clear, Cond.instanceMethod yX0_clear, Cond.selects RX0 yX0_clear yX0_clear, Cond.code yX0_clear cX0_clear 1 none]
def wsX2_firstBottleIn_r4 : List Cond := [Cond.methodLink RX2 63 yX1_ageAll, Cond.instanceMethod yX1_ageAll, Cond.selects RX1 yX1_ageAll yX1_ageAll, Cond.code yX1_ageAll cX1_ageAll 6 (some .double), Cond.constantDouble RX1 94 (4598175219545276416), Cond.methodLink RX1 79 yX1_draughtNow, Cond.instanceMethod yX1_draughtNow, Cond.selects RX1 yX1_draughtNow yX1_draughtNow, Cond.code yX1_draughtNow cX1_draughtNow 3 (some .double), Cond.constantDouble RX1 96 (4587366580439587226), Cond.constantDouble RX1 98 (4596373779694328218), Cond.methodLink RX1 86 yX0_spendYear, Cond.instanceMethod yX0_spendYear, Cond.selects RX0 yX0_spendYear yX0_spendYear, Cond.code yX0_spendYear cX0_spendYear 9 (some .double), Cond.constantDouble RX0 48 (4634626229029306368), Cond.methodLink RX0 36 yX0_share, Cond.static yX0_share, Cond.code yX0_share cX0_share 1 (some .double), Cond.constantDouble RX0 71 (4581421828931458171), Cond.constantDouble RX0 73 (4584304132692975288), Cond.constantDouble RX0 75 (4585204852618449388), Cond.constantDouble RX0 77 (4582862980812216730), Cond.methodLink RX0 40 yX0_takeOut]
def wsX2_firstBottleIn_r5 : List Cond := [Cond.methodLink RX0 44 yX0_isEmpty, Cond.methodLink RX0 50 yX0_sour, Cond.instanceMethod yX0_sour, Cond.selects RX0 yX0_sour yX0_sour, Cond.code yX0_sour cX0_sour 3 none, Cond.constantDouble RX0 53 (4626322717216342016), Cond.constantDouble RX0 55 (4620693217682128896), Cond.constantDouble RX0 57 (4603579539098121011), Cond.constantDouble RX0 59 (4605380978949069210), Cond.constantDouble RX0 61 (4591870180066957722), Cond.constantDouble RX0 63 (4622945017495814144)]
def wsX2_firstBottleIn : List Cond := .code yX2_firstBottleIn cX2_firstBottleIn 2 (some .int) :: ((wsX2_firstBottleIn_r1 ++ (wsX2_firstBottleIn_r2 ++ (wsX2_firstBottleIn_r3 ++ (wsX2_firstBottleIn_r4 ++ wsX2_firstBottleIn_r5)))) ++ wsX20 ++ wsX10 ++ wsX00)
def wsX3_init : List Cond := .code yX3_init cX3_init 1 none :: ([.methodLink RX3 1 objectInit, .instanceMethod objectInit, .code objectInit ⟨#[0xb1]⟩ 1 none, .arrayClass .int, .fieldLink RX3 7 "VinegarLoftModel" "wood" "[I", .fieldLink RX3 13 "VinegarLoftModel" "sizes" "[I", .arrayClass .double, .fieldLink RX3 16 "VinegarLoftModel" "holds" "[D", .fieldLink RX3 20 "VinegarLoftModel" "copy" "[D", .fieldLink RX3 23 "VinegarLoftModel" "warmth" "I", .fieldLink RX3 27 "VinegarLoftModel" "quotaFrom" "I"] ++ wsX30)
def wsX3_thrown : List Cond := .code yX3_thrown cX3_thrown 1 (some .int) :: ([.fieldLink RX3 30 "VinegarLoftModel" "thrown" "I"] ++ wsX30)
def wsX3_isThere : List Cond := .code yX3_isThere cX3_isThere 2 (some .boolean) :: ([.fieldLink RX3 33 "VinegarLoftModel" "many" "I", .fieldLink RX3 30 "VinegarLoftModel" "thrown" "I"] ++ wsX30)
def wsX3_isEmpty : List Cond := .code yX3_isEmpty cX3_isEmpty 2 (some .boolean) :: ([.fieldLink RX3 16 "VinegarLoftModel" "holds" "[D"] ++ wsX30)
def wsX3_lesser : List Cond := .code yX3_lesser cX3_lesser 4 (some .double) :: ([])
def wsX3_mixes : List Cond := .code yX3_mixes cX3_mixes 11 none :: ([.fieldLink RX3 16 "VinegarLoftModel" "holds" "[D"] ++ wsX30)
def wsX3_gets : List Cond := .code yX3_gets cX3_gets 10 none :: ([.fieldLink RX3 16 "VinegarLoftModel" "holds" "[D", .methodLink RX3 36 yX3_mixes, .instanceMethod yX3_mixes, .selects RX3 yX3_mixes yX3_mixes, .initialized RX3, .code yX3_mixes cX3_mixes 11 none] ++ wsX30)
def wsX3_pours : List Cond := .code yX3_pours cX3_pours 3 (some .double) :: ([.constantDouble RX3 40 (4629137466983448576), .methodLink RX3 42 yX3_gets, .instanceMethod yX3_gets, .selects RX3 yX3_gets yX3_gets, .initialized RX3, .code yX3_gets cX3_gets 10 none, .fieldLink RX3 16 "VinegarLoftModel" "holds" "[D", .methodLink RX3 36 yX3_mixes, .instanceMethod yX3_mixes, .selects RX3 yX3_mixes yX3_mixes, .code yX3_mixes cX3_mixes 11 none] ++ wsX30)
def wsX3_room : List Cond := .code yX3_room cX3_room 1 (some .double) :: ([.fieldLink RX3 13 "VinegarLoftModel" "sizes" "[I", .fieldLink RX3 16 "VinegarLoftModel" "holds" "[D"] ++ wsX30)
def wsX3_topsUp : List Cond := .code yX3_topsUp cX3_topsUp 8 (some .double) :: ([.fieldLink RX3 33 "VinegarLoftModel" "many" "I", .constantDouble RX3 46 (4606281698874543309), .fieldLink RX3 13 "VinegarLoftModel" "sizes" "[I", .fieldLink RX3 16 "VinegarLoftModel" "holds" "[D", .constantDouble RX3 48 (4602678819172646912), .methodLink RX3 50 yX3_lesser, .static yX3_lesser, .initialized RX3, .code yX3_lesser cX3_lesser 4 (some .double), .methodLink RX3 42 yX3_gets, .instanceMethod yX3_gets, .selects RX3 yX3_gets yX3_gets, .code yX3_gets cX3_gets 10 none, .methodLink RX3 36 yX3_mixes, .instanceMethod yX3_mixes, .selects RX3 yX3_mixes yX3_mixes, .code yX3_mixes cX3_mixes 11 none] ++ wsX30)
def wsX3_share : List Cond := .code yX3_share cX3_share 1 (some .double) :: ([.constantDouble RX3 54 (4581421828931458171), .constantDouble RX3 56 (4584304132692975288), .constantDouble RX3 58 (4585204852618449388), .constantDouble RX3 60 (4582862980812216730)])
def wsX3_draught : List Cond := .code yX3_draught cX3_draught 3 (some .double) :: ([.constantDouble RX3 62 (4587366580439587226), .fieldLink RX3 23 "VinegarLoftModel" "warmth" "I", .constantDouble RX3 64 (4596373779694328218)] ++ wsX30)
def wsX3_ages_r1 : List Cond := [Cond.fieldLink RX3 16 "VinegarLoftModel" "holds" "[D", Cond.fieldLink RX3 7 "VinegarLoftModel" "wood" "[I", Cond.constantDouble RX3 74 (4634626229029306368), Cond.constantDouble RX3 76 (4626322717216342016), Cond.constantDouble RX3 78 (4620693217682128896), Cond.constantDouble RX3 80 (4603579539098121011), Cond.constantDouble RX3 82 (4605380978949069210), Cond.constantDouble RX3 84 (4591870180066957722), Cond.constantDouble RX3 86 (4622945017495814144), Cond.methodLink RX3 66 yX3_share, Cond.static yX3_share, Cond.initialized RX3, Cond.code yX3_share cX3_share 1 (some .double), Cond.constantDouble RX3 54 (4581421828931458171), Cond.constantDouble RX3 56 (4584304132692975288), Cond.constantDouble RX3 58 (4585204852618449388), Cond.constantDouble RX3 60 (4582862980812216730), Cond.methodLink RX3 70 yX3_draught, Cond.instanceMethod yX3_draught, Cond.selects RX3 yX3_draught yX3_draught, Cond.code yX3_draught cX3_draught 3 (some .double), Cond.constantDouble RX3 62 (4587366580439587226), Cond.fieldLink RX3 23 "VinegarLoftModel" "warmth" "I", Cond.constantDouble RX3 64 (4596373779694328218)]
def wsX3_ages_r2 : List Cond := [Cond.methodLink RX3 50 yX3_lesser, Cond.static yX3_lesser, Cond.code yX3_lesser cX3_lesser 4 (some .double)]
def wsX3_ages : List Cond := .code yX3_ages cX3_ages 8 (some .double) :: ((wsX3_ages_r1 ++ wsX3_ages_r2) ++ wsX30)
def wsX3_oldestNow : List Cond := .code yX3_oldestNow cX3_oldestNow 3 (some .int) :: ([.fieldLink RX3 33 "VinegarLoftModel" "many" "I", .fieldLink RX3 16 "VinegarLoftModel" "holds" "[D", .methodLink RX3 88 yX3_isEmpty, .instanceMethod yX3_isEmpty, .selects RX3 yX3_isEmpty yX3_isEmpty, .initialized RX3, .code yX3_isEmpty cX3_isEmpty 2 (some .boolean)] ++ wsX30)
def wsX3_passes_r1 : List Cond := [Cond.fieldLink RX3 33 "VinegarLoftModel" "many" "I", Cond.fieldLink RX3 95 "VinegarLoftModel" "years" "I", Cond.fieldLink RX3 27 "VinegarLoftModel" "quotaFrom" "I", Cond.constantDouble RX3 102 (4598175219545276416), Cond.fieldLink RX3 16 "VinegarLoftModel" "holds" "[D", Cond.fieldLink RX3 104 "VinegarLoftModel" "quota" "D", Cond.methodLink RX3 88 yX3_isEmpty, Cond.instanceMethod yX3_isEmpty, Cond.selects RX3 yX3_isEmpty yX3_isEmpty, Cond.initialized RX3, Cond.code yX3_isEmpty cX3_isEmpty 2 (some .boolean), Cond.methodLink RX3 92 yX3_ages, Cond.instanceMethod yX3_ages, Cond.selects RX3 yX3_ages yX3_ages, Cond.code yX3_ages cX3_ages 8 (some .double), Cond.fieldLink RX3 7 "VinegarLoftModel" "wood" "[I", Cond.constantDouble RX3 74 (4634626229029306368), Cond.constantDouble RX3 76 (4626322717216342016), Cond.constantDouble RX3 78 (4620693217682128896), Cond.constantDouble RX3 80 (4603579539098121011), Cond.constantDouble RX3 82 (4605380978949069210), Cond.constantDouble RX3 84 (4591870180066957722), Cond.constantDouble RX3 86 (4622945017495814144), Cond.methodLink RX3 66 yX3_share]
def wsX3_passes_r2 : List Cond := [Cond.static yX3_share, Cond.code yX3_share cX3_share 1 (some .double), Cond.constantDouble RX3 54 (4581421828931458171), Cond.constantDouble RX3 56 (4584304132692975288), Cond.constantDouble RX3 58 (4585204852618449388), Cond.constantDouble RX3 60 (4582862980812216730), Cond.methodLink RX3 70 yX3_draught, Cond.instanceMethod yX3_draught, Cond.selects RX3 yX3_draught yX3_draught, Cond.code yX3_draught cX3_draught 3 (some .double), Cond.constantDouble RX3 62 (4587366580439587226), Cond.fieldLink RX3 23 "VinegarLoftModel" "warmth" "I", Cond.constantDouble RX3 64 (4596373779694328218), Cond.methodLink RX3 50 yX3_lesser, Cond.static yX3_lesser, Cond.code yX3_lesser cX3_lesser 4 (some .double), Cond.methodLink RX3 98 yX3_oldestNow, Cond.instanceMethod yX3_oldestNow, Cond.selects RX3 yX3_oldestNow yX3_oldestNow, Cond.code yX3_oldestNow cX3_oldestNow 3 (some .int)]
def wsX3_passes : List Cond := .code yX3_passes cX3_passes 4 (some .double) :: ((wsX3_passes_r1 ++ wsX3_passes_r2) ++ wsX30)
def wsX3_bottlesNow : List Cond := .code yX3_bottlesNow cX3_bottlesNow 4 (some .int) :: ([.fieldLink RX3 27 "VinegarLoftModel" "quotaFrom" "I", .fieldLink RX3 16 "VinegarLoftModel" "holds" "[D", .constantDouble RX3 86 (4622945017495814144), .constantDouble RX3 108 (4627730092099895296), .fieldLink RX3 104 "VinegarLoftModel" "quota" "D", .constantDouble RX3 84 (4591870180066957722), .methodLink RX3 98 yX3_oldestNow, .instanceMethod yX3_oldestNow, .selects RX3 yX3_oldestNow yX3_oldestNow, .initialized RX3, .code yX3_oldestNow cX3_oldestNow 3 (some .int), .fieldLink RX3 33 "VinegarLoftModel" "many" "I", .methodLink RX3 88 yX3_isEmpty, .instanceMethod yX3_isEmpty, .selects RX3 yX3_isEmpty yX3_isEmpty, .code yX3_isEmpty cX3_isEmpty 2 (some .boolean), .methodLink RX3 50 yX3_lesser, .static yX3_lesser, .code yX3_lesser cX3_lesser 4 (some .double)] ++ wsX30)
def wsX3_add : List Cond := .code yX3_add cX3_add 4 (some .int) :: ([.fieldLink RX3 33 "VinegarLoftModel" "many" "I", .fieldLink RX3 13 "VinegarLoftModel" "sizes" "[I", .fieldLink RX3 30 "VinegarLoftModel" "thrown" "I", .fieldLink RX3 7 "VinegarLoftModel" "wood" "[I"] ++ wsX30)
def wsX3_fill_r1 : List Cond := [Cond.fieldLink RX3 30 "VinegarLoftModel" "thrown" "I", Cond.fieldLink RX3 33 "VinegarLoftModel" "many" "I", Cond.methodLink RX3 110 yX3_room, Cond.instanceMethod yX3_room, Cond.selects RX3 yX3_room yX3_room, Cond.initialized RX3, Cond.code yX3_room cX3_room 1 (some .double), Cond.fieldLink RX3 13 "VinegarLoftModel" "sizes" "[I", Cond.fieldLink RX3 16 "VinegarLoftModel" "holds" "[D", Cond.methodLink RX3 50 yX3_lesser, Cond.static yX3_lesser, Cond.code yX3_lesser cX3_lesser 4 (some .double), Cond.methodLink RX3 113 yX3_pours, Cond.instanceMethod yX3_pours, Cond.selects RX3 yX3_pours yX3_pours, Cond.code yX3_pours cX3_pours 3 (some .double), Cond.constantDouble RX3 40 (4629137466983448576), Cond.methodLink RX3 42 yX3_gets, Cond.instanceMethod yX3_gets, Cond.selects RX3 yX3_gets yX3_gets, Cond.code yX3_gets cX3_gets 10 none, Cond.methodLink RX3 36 yX3_mixes, Cond.instanceMethod yX3_mixes, Cond.selects RX3 yX3_mixes yX3_mixes]
def wsX3_fill_r2 : List Cond := [Cond.code yX3_mixes cX3_mixes 11 none]
def wsX3_fill : List Cond := .code yX3_fill cX3_fill 2 (some .double) :: ((wsX3_fill_r1 ++ wsX3_fill_r2) ++ wsX30)
def wsX3_topUp : List Cond := .code yX3_topUp cX3_topUp 1 (some .double) :: ([.fieldLink RX3 30 "VinegarLoftModel" "thrown" "I", .methodLink RX3 117 yX3_topsUp, .instanceMethod yX3_topsUp, .selects RX3 yX3_topsUp yX3_topsUp, .initialized RX3, .code yX3_topsUp cX3_topsUp 8 (some .double), .fieldLink RX3 33 "VinegarLoftModel" "many" "I", .constantDouble RX3 46 (4606281698874543309), .fieldLink RX3 13 "VinegarLoftModel" "sizes" "[I", .fieldLink RX3 16 "VinegarLoftModel" "holds" "[D", .constantDouble RX3 48 (4602678819172646912), .methodLink RX3 50 yX3_lesser, .static yX3_lesser, .code yX3_lesser cX3_lesser 4 (some .double), .methodLink RX3 42 yX3_gets, .instanceMethod yX3_gets, .selects RX3 yX3_gets yX3_gets, .code yX3_gets cX3_gets 10 none, .methodLink RX3 36 yX3_mixes, .instanceMethod yX3_mixes, .selects RX3 yX3_mixes yX3_mixes, .code yX3_mixes cX3_mixes 11 none] ++ wsX30)
def wsX3_year_r1 : List Cond := [Cond.fieldLink RX3 30 "VinegarLoftModel" "thrown" "I", Cond.methodLink RX3 120 yX3_passes, Cond.instanceMethod yX3_passes, Cond.selects RX3 yX3_passes yX3_passes, Cond.initialized RX3, Cond.code yX3_passes cX3_passes 4 (some .double), Cond.fieldLink RX3 33 "VinegarLoftModel" "many" "I", Cond.fieldLink RX3 95 "VinegarLoftModel" "years" "I", Cond.fieldLink RX3 27 "VinegarLoftModel" "quotaFrom" "I", Cond.constantDouble RX3 102 (4598175219545276416), Cond.fieldLink RX3 16 "VinegarLoftModel" "holds" "[D", Cond.fieldLink RX3 104 "VinegarLoftModel" "quota" "D", Cond.methodLink RX3 88 yX3_isEmpty, Cond.instanceMethod yX3_isEmpty, Cond.selects RX3 yX3_isEmpty yX3_isEmpty, Cond.code yX3_isEmpty cX3_isEmpty 2 (some .boolean), Cond.methodLink RX3 92 yX3_ages, Cond.instanceMethod yX3_ages, Cond.selects RX3 yX3_ages yX3_ages, Cond.code yX3_ages cX3_ages 8 (some .double), Cond.fieldLink RX3 7 "VinegarLoftModel" "wood" "[I", Cond.constantDouble RX3 74 (4634626229029306368), Cond.constantDouble RX3 76 (4626322717216342016), Cond.constantDouble RX3 78 (4620693217682128896)]
def wsX3_year_r2 : List Cond := [Cond.constantDouble RX3 80 (4603579539098121011), Cond.constantDouble RX3 82 (4605380978949069210), Cond.constantDouble RX3 84 (4591870180066957722), Cond.constantDouble RX3 86 (4622945017495814144), Cond.methodLink RX3 66 yX3_share, Cond.static yX3_share, Cond.code yX3_share cX3_share 1 (some .double), Cond.constantDouble RX3 54 (4581421828931458171), Cond.constantDouble RX3 56 (4584304132692975288), Cond.constantDouble RX3 58 (4585204852618449388), Cond.constantDouble RX3 60 (4582862980812216730), Cond.methodLink RX3 70 yX3_draught, Cond.instanceMethod yX3_draught, Cond.selects RX3 yX3_draught yX3_draught, Cond.code yX3_draught cX3_draught 3 (some .double), Cond.constantDouble RX3 62 (4587366580439587226), Cond.fieldLink RX3 23 "VinegarLoftModel" "warmth" "I", Cond.constantDouble RX3 64 (4596373779694328218), Cond.methodLink RX3 50 yX3_lesser, Cond.static yX3_lesser, Cond.code yX3_lesser cX3_lesser 4 (some .double), Cond.methodLink RX3 98 yX3_oldestNow, Cond.instanceMethod yX3_oldestNow, Cond.selects RX3 yX3_oldestNow yX3_oldestNow]
def wsX3_year_r3 : List Cond := [Cond.code yX3_oldestNow cX3_oldestNow 3 (some .int)]
def wsX3_year : List Cond := .code yX3_year cX3_year 1 (some .double) :: ((wsX3_year_r1 ++ (wsX3_year_r2 ++ wsX3_year_r3)) ++ wsX30)
def wsX3_empties : List Cond := .code yX3_empties cX3_empties 2 none :: ([.fieldLink RX3 16 "VinegarLoftModel" "holds" "[D"] ++ wsX30)
def wsX3_draw_r1 : List Cond := [Cond.fieldLink RX3 30 "VinegarLoftModel" "thrown" "I", Cond.fieldLink RX3 27 "VinegarLoftModel" "quotaFrom" "I", Cond.fieldLink RX3 16 "VinegarLoftModel" "holds" "[D", Cond.fieldLink RX3 126 "VinegarLoftModel" "young" "I", Cond.constantDouble RX3 129 (4625759767262920704), Cond.fieldLink RX3 131 "VinegarLoftModel" "ripe" "I", Cond.constantDouble RX3 108 (4627730092099895296), Cond.fieldLink RX3 134 "VinegarLoftModel" "old" "I", Cond.fieldLink RX3 104 "VinegarLoftModel" "quota" "D", Cond.constantDouble RX3 84 (4591870180066957722), Cond.methodLink RX3 123 yX3_bottlesNow, Cond.instanceMethod yX3_bottlesNow, Cond.selects RX3 yX3_bottlesNow yX3_bottlesNow, Cond.initialized RX3, Cond.code yX3_bottlesNow cX3_bottlesNow 4 (some .int), Cond.constantDouble RX3 86 (4622945017495814144), Cond.methodLink RX3 98 yX3_oldestNow, Cond.instanceMethod yX3_oldestNow, Cond.selects RX3 yX3_oldestNow yX3_oldestNow, Cond.code yX3_oldestNow cX3_oldestNow 3 (some .int), Cond.fieldLink RX3 33 "VinegarLoftModel" "many" "I", Cond.methodLink RX3 88 yX3_isEmpty, Cond.instanceMethod yX3_isEmpty, Cond.selects RX3 yX3_isEmpty yX3_isEmpty]
def wsX3_draw_r2 : List Cond := [Cond.code yX3_isEmpty cX3_isEmpty 2 (some .boolean), Cond.methodLink RX3 50 yX3_lesser, Cond.static yX3_lesser, Cond.code yX3_lesser cX3_lesser 4 (some .double), Cond.methodLink RX3 137 yX3_empties, Cond.instanceMethod yX3_empties, Cond.selects RX3 yX3_empties yX3_empties, Cond.code yX3_empties cX3_empties 2 none]
def wsX3_draw : List Cond := .code yX3_draw cX3_draw 7 (some .int) :: ((wsX3_draw_r1 ++ wsX3_draw_r2) ++ wsX30)
def wsX3_pourAway : List Cond := .code yX3_pourAway cX3_pourAway 4 (some .double) :: ([.fieldLink RX3 16 "VinegarLoftModel" "holds" "[D", .methodLink RX3 141 yX3_isThere, .instanceMethod yX3_isThere, .selects RX3 yX3_isThere yX3_isThere, .initialized RX3, .code yX3_isThere cX3_isThere 2 (some .boolean), .fieldLink RX3 33 "VinegarLoftModel" "many" "I", .fieldLink RX3 30 "VinegarLoftModel" "thrown" "I", .methodLink RX3 137 yX3_empties, .instanceMethod yX3_empties, .selects RX3 yX3_empties yX3_empties, .code yX3_empties cX3_empties 2 none] ++ wsX30)
def wsX3_setWarmth : List Cond := .code yX3_setWarmth cX3_setWarmth 2 none :: ([.fieldLink RX3 30 "VinegarLoftModel" "thrown" "I", .fieldLink RX3 23 "VinegarLoftModel" "warmth" "I"] ++ wsX30)
def wsX3_barrels : List Cond := .code yX3_barrels cX3_barrels 1 (some .int) :: ([.fieldLink RX3 30 "VinegarLoftModel" "thrown" "I", .fieldLink RX3 33 "VinegarLoftModel" "many" "I"] ++ wsX30)
def wsX3_of : List Cond := .code yX3_of cX3_of 3 (some .double) :: ([.fieldLink RX3 16 "VinegarLoftModel" "holds" "[D", .methodLink RX3 141 yX3_isThere, .instanceMethod yX3_isThere, .selects RX3 yX3_isThere yX3_isThere, .initialized RX3, .code yX3_isThere cX3_isThere 2 (some .boolean), .fieldLink RX3 33 "VinegarLoftModel" "many" "I", .fieldLink RX3 30 "VinegarLoftModel" "thrown" "I"] ++ wsX30)
def wsX3_litresIn : List Cond := .code yX3_litresIn cX3_litresIn 2 (some .double) :: ([.methodLink RX3 144 yX3_of, .instanceMethod yX3_of, .selects RX3 yX3_of yX3_of, .initialized RX3, .code yX3_of cX3_of 3 (some .double), .fieldLink RX3 16 "VinegarLoftModel" "holds" "[D", .methodLink RX3 141 yX3_isThere, .instanceMethod yX3_isThere, .selects RX3 yX3_isThere yX3_isThere, .code yX3_isThere cX3_isThere 2 (some .boolean), .fieldLink RX3 33 "VinegarLoftModel" "many" "I", .fieldLink RX3 30 "VinegarLoftModel" "thrown" "I"] ++ wsX30)
def wsX3_ageOf : List Cond := .code yX3_ageOf cX3_ageOf 2 (some .double) :: ([.methodLink RX3 144 yX3_of, .instanceMethod yX3_of, .selects RX3 yX3_of yX3_of, .initialized RX3, .code yX3_of cX3_of 3 (some .double), .fieldLink RX3 16 "VinegarLoftModel" "holds" "[D", .methodLink RX3 141 yX3_isThere, .instanceMethod yX3_isThere, .selects RX3 yX3_isThere yX3_isThere, .code yX3_isThere cX3_isThere 2 (some .boolean), .fieldLink RX3 33 "VinegarLoftModel" "many" "I", .fieldLink RX3 30 "VinegarLoftModel" "thrown" "I"] ++ wsX30)
def wsX3_acidOf : List Cond := .code yX3_acidOf cX3_acidOf 2 (some .double) :: ([.methodLink RX3 144 yX3_of, .instanceMethod yX3_of, .selects RX3 yX3_of yX3_of, .initialized RX3, .code yX3_of cX3_of 3 (some .double), .fieldLink RX3 16 "VinegarLoftModel" "holds" "[D", .methodLink RX3 141 yX3_isThere, .instanceMethod yX3_isThere, .selects RX3 yX3_isThere yX3_isThere, .code yX3_isThere cX3_isThere 2 (some .boolean), .fieldLink RX3 33 "VinegarLoftModel" "many" "I", .fieldLink RX3 30 "VinegarLoftModel" "thrown" "I"] ++ wsX30)
def wsX3_sugarOf : List Cond := .code yX3_sugarOf cX3_sugarOf 2 (some .double) :: ([.methodLink RX3 144 yX3_of, .instanceMethod yX3_of, .selects RX3 yX3_of yX3_of, .initialized RX3, .code yX3_of cX3_of 3 (some .double), .fieldLink RX3 16 "VinegarLoftModel" "holds" "[D", .methodLink RX3 141 yX3_isThere, .instanceMethod yX3_isThere, .selects RX3 yX3_isThere yX3_isThere, .code yX3_isThere cX3_isThere 2 (some .boolean), .fieldLink RX3 33 "VinegarLoftModel" "many" "I", .fieldLink RX3 30 "VinegarLoftModel" "thrown" "I"] ++ wsX30)
def wsX3_tasteOf : List Cond := .code yX3_tasteOf cX3_tasteOf 4 (some .double) :: ([.fieldLink RX3 16 "VinegarLoftModel" "holds" "[D", .constantDouble RX3 148 (4618441417868443648), .constantDouble RX3 48 (4602678819172646912), .constantDouble RX3 82 (4605380978949069210), .constantDouble RX3 150 (4613937818241073152), .methodLink RX3 141 yX3_isThere, .instanceMethod yX3_isThere, .selects RX3 yX3_isThere yX3_isThere, .initialized RX3, .code yX3_isThere cX3_isThere 2 (some .boolean), .fieldLink RX3 33 "VinegarLoftModel" "many" "I", .fieldLink RX3 30 "VinegarLoftModel" "thrown" "I", .methodLink RX3 88 yX3_isEmpty, .instanceMethod yX3_isEmpty, .selects RX3 yX3_isEmpty yX3_isEmpty, .code yX3_isEmpty cX3_isEmpty 2 (some .boolean)] ++ wsX30)
def wsX3_oldest : List Cond := .code yX3_oldest cX3_oldest 1 (some .int) :: ([.fieldLink RX3 30 "VinegarLoftModel" "thrown" "I", .methodLink RX3 98 yX3_oldestNow, .instanceMethod yX3_oldestNow, .selects RX3 yX3_oldestNow yX3_oldestNow, .initialized RX3, .code yX3_oldestNow cX3_oldestNow 3 (some .int), .fieldLink RX3 33 "VinegarLoftModel" "many" "I", .fieldLink RX3 16 "VinegarLoftModel" "holds" "[D", .methodLink RX3 88 yX3_isEmpty, .instanceMethod yX3_isEmpty, .selects RX3 yX3_isEmpty yX3_isEmpty, .code yX3_isEmpty cX3_isEmpty 2 (some .boolean)] ++ wsX30)
def wsX3_drawable : List Cond := .code yX3_drawable cX3_drawable 1 (some .int) :: ([.fieldLink RX3 30 "VinegarLoftModel" "thrown" "I", .methodLink RX3 123 yX3_bottlesNow, .instanceMethod yX3_bottlesNow, .selects RX3 yX3_bottlesNow yX3_bottlesNow, .initialized RX3, .code yX3_bottlesNow cX3_bottlesNow 4 (some .int), .fieldLink RX3 27 "VinegarLoftModel" "quotaFrom" "I", .fieldLink RX3 16 "VinegarLoftModel" "holds" "[D", .constantDouble RX3 86 (4622945017495814144), .constantDouble RX3 108 (4627730092099895296), .fieldLink RX3 104 "VinegarLoftModel" "quota" "D", .constantDouble RX3 84 (4591870180066957722), .methodLink RX3 98 yX3_oldestNow, .instanceMethod yX3_oldestNow, .selects RX3 yX3_oldestNow yX3_oldestNow, .code yX3_oldestNow cX3_oldestNow 3 (some .int), .fieldLink RX3 33 "VinegarLoftModel" "many" "I", .methodLink RX3 88 yX3_isEmpty, .instanceMethod yX3_isEmpty, .selects RX3 yX3_isEmpty yX3_isEmpty, .code yX3_isEmpty cX3_isEmpty 2 (some .boolean), .methodLink RX3 50 yX3_lesser, .static yX3_lesser, .code yX3_lesser cX3_lesser 4 (some .double)] ++ wsX30)
def wsX3_bottles : List Cond := .code yX3_bottles cX3_bottles 2 (some .int) :: ([.fieldLink RX3 30 "VinegarLoftModel" "thrown" "I", .fieldLink RX3 126 "VinegarLoftModel" "young" "I", .fieldLink RX3 131 "VinegarLoftModel" "ripe" "I", .fieldLink RX3 134 "VinegarLoftModel" "old" "I"] ++ wsX30)
def wsX3_years : List Cond := .code yX3_years cX3_years 1 (some .int) :: ([.fieldLink RX3 30 "VinegarLoftModel" "thrown" "I", .fieldLink RX3 95 "VinegarLoftModel" "years" "I"] ++ wsX30)
def wsX3_mean : List Cond := .code yX3_mean cX3_mean 8 (some .double) :: ([.fieldLink RX3 30 "VinegarLoftModel" "thrown" "I", .fieldLink RX3 33 "VinegarLoftModel" "many" "I", .fieldLink RX3 16 "VinegarLoftModel" "holds" "[D", .methodLink RX3 88 yX3_isEmpty, .instanceMethod yX3_isEmpty, .selects RX3 yX3_isEmpty yX3_isEmpty, .initialized RX3, .code yX3_isEmpty cX3_isEmpty 2 (some .boolean)] ++ wsX30)
def wsX3_meanAge : List Cond := .code yX3_meanAge cX3_meanAge 1 (some .double) :: ([.methodLink RX3 152 yX3_mean, .instanceMethod yX3_mean, .selects RX3 yX3_mean yX3_mean, .initialized RX3, .code yX3_mean cX3_mean 8 (some .double), .fieldLink RX3 30 "VinegarLoftModel" "thrown" "I", .fieldLink RX3 33 "VinegarLoftModel" "many" "I", .fieldLink RX3 16 "VinegarLoftModel" "holds" "[D", .methodLink RX3 88 yX3_isEmpty, .instanceMethod yX3_isEmpty, .selects RX3 yX3_isEmpty yX3_isEmpty, .code yX3_isEmpty cX3_isEmpty 2 (some .boolean)] ++ wsX30)
def wsX3_meanSugar : List Cond := .code yX3_meanSugar cX3_meanSugar 1 (some .double) :: ([.methodLink RX3 152 yX3_mean, .instanceMethod yX3_mean, .selects RX3 yX3_mean yX3_mean, .initialized RX3, .code yX3_mean cX3_mean 8 (some .double), .fieldLink RX3 30 "VinegarLoftModel" "thrown" "I", .fieldLink RX3 33 "VinegarLoftModel" "many" "I", .fieldLink RX3 16 "VinegarLoftModel" "holds" "[D", .methodLink RX3 88 yX3_isEmpty, .instanceMethod yX3_isEmpty, .selects RX3 yX3_isEmpty yX3_isEmpty, .code yX3_isEmpty cX3_isEmpty 2 (some .boolean)] ++ wsX30)
def wsX3_firstBottleIn_r1 : List Cond := [Cond.fieldLink RX3 30 "VinegarLoftModel" "thrown" "I", Cond.fieldLink RX3 33 "VinegarLoftModel" "many" "I", Cond.fieldLink RX3 20 "VinegarLoftModel" "copy" "[D", Cond.fieldLink RX3 16 "VinegarLoftModel" "holds" "[D", Cond.fieldLink RX3 95 "VinegarLoftModel" "years" "I", Cond.fieldLink RX3 27 "VinegarLoftModel" "quotaFrom" "I", Cond.fieldLink RX3 104 "VinegarLoftModel" "quota" "D", Cond.methodLink RX3 123 yX3_bottlesNow, Cond.instanceMethod yX3_bottlesNow, Cond.selects RX3 yX3_bottlesNow yX3_bottlesNow, Cond.initialized RX3, Cond.code yX3_bottlesNow cX3_bottlesNow 4 (some .int), Cond.constantDouble RX3 86 (4622945017495814144), Cond.constantDouble RX3 108 (4627730092099895296), Cond.constantDouble RX3 84 (4591870180066957722), Cond.methodLink RX3 98 yX3_oldestNow, Cond.instanceMethod yX3_oldestNow, Cond.selects RX3 yX3_oldestNow yX3_oldestNow, Cond.code yX3_oldestNow cX3_oldestNow 3 (some .int), Cond.methodLink RX3 88 yX3_isEmpty, Cond.instanceMethod yX3_isEmpty, Cond.selects RX3 yX3_isEmpty yX3_isEmpty, Cond.code yX3_isEmpty cX3_isEmpty 2 (some .boolean), Cond.methodLink RX3 50 yX3_lesser]
def wsX3_firstBottleIn_r2 : List Cond := [Cond.static yX3_lesser, Cond.code yX3_lesser cX3_lesser 4 (some .double), Cond.methodLink RX3 110 yX3_room, Cond.instanceMethod yX3_room, Cond.selects RX3 yX3_room yX3_room, Cond.code yX3_room cX3_room 1 (some .double), Cond.fieldLink RX3 13 "VinegarLoftModel" "sizes" "[I", Cond.methodLink RX3 113 yX3_pours, Cond.instanceMethod yX3_pours, Cond.selects RX3 yX3_pours yX3_pours, Cond.code yX3_pours cX3_pours 3 (some .double), Cond.constantDouble RX3 40 (4629137466983448576), Cond.methodLink RX3 42 yX3_gets, Cond.instanceMethod yX3_gets, Cond.selects RX3 yX3_gets yX3_gets, Cond.code yX3_gets cX3_gets 10 none, Cond.methodLink RX3 36 yX3_mixes, Cond.instanceMethod yX3_mixes, Cond.selects RX3 yX3_mixes yX3_mixes, Cond.code yX3_mixes cX3_mixes 11 none, Cond.methodLink RX3 117 yX3_topsUp, Cond.instanceMethod yX3_topsUp, Cond.selects RX3 yX3_topsUp yX3_topsUp, Cond.code yX3_topsUp cX3_topsUp 8 (some .double)]
def wsX3_firstBottleIn_r3 : List Cond := [Cond.constantDouble RX3 46 (4606281698874543309), Cond.constantDouble RX3 48 (4602678819172646912), Cond.methodLink RX3 120 yX3_passes, Cond.instanceMethod yX3_passes, Cond.selects RX3 yX3_passes yX3_passes, Cond.code yX3_passes cX3_passes 4 (some .double), Cond.constantDouble RX3 102 (4598175219545276416), Cond.methodLink RX3 92 yX3_ages, Cond.instanceMethod yX3_ages, Cond.selects RX3 yX3_ages yX3_ages, Cond.code yX3_ages cX3_ages 8 (some .double), Cond.fieldLink RX3 7 "VinegarLoftModel" "wood" "[I", Cond.constantDouble RX3 74 (4634626229029306368), Cond.constantDouble RX3 76 (4626322717216342016), Cond.constantDouble RX3 78 (4620693217682128896), Cond.constantDouble RX3 80 (4603579539098121011), Cond.constantDouble RX3 82 (4605380978949069210), Cond.methodLink RX3 66 yX3_share, Cond.static yX3_share, Cond.code yX3_share cX3_share 1 (some .double), Cond.constantDouble RX3 54 (4581421828931458171), Cond.constantDouble RX3 56 (4584304132692975288), Cond.constantDouble RX3 58 (4585204852618449388), Cond.constantDouble RX3 60 (4582862980812216730)]
def wsX3_firstBottleIn_r4 : List Cond := [Cond.methodLink RX3 70 yX3_draught, Cond.instanceMethod yX3_draught, Cond.selects RX3 yX3_draught yX3_draught, Cond.code yX3_draught cX3_draught 3 (some .double), Cond.constantDouble RX3 62 (4587366580439587226), Cond.fieldLink RX3 23 "VinegarLoftModel" "warmth" "I", Cond.constantDouble RX3 64 (4596373779694328218)]
def wsX3_firstBottleIn : List Cond := .code yX3_firstBottleIn cX3_firstBottleIn 13 (some .int) :: ((wsX3_firstBottleIn_r1 ++ (wsX3_firstBottleIn_r2 ++ (wsX3_firstBottleIn_r3 ++ wsX3_firstBottleIn_r4))) ++ wsX30)
def wsL_add_r1 : List Cond := [Cond.classLink RL 13 "java/lang/IllegalArgumentException", Cond.classLink RL 15 "java/lang/IllegalStateException", Cond.methodLink RL 7 yX2_add, Cond.instanceMethod yX2_add, Cond.selects RX2 yX2_add yX2_add, Cond.initialized RX2, Cond.code yX2_add cX2_add 3 (some .int), Cond.classLink RX2 27 "java/lang/IllegalArgumentException", Cond.initialized "java/lang/IllegalArgumentException", Cond.classLink RX2 44 "java/lang/IllegalStateException", Cond.initialized "java/lang/IllegalStateException", Cond.fieldLink RX2 10 "VinegarLoft" "row" "LVinegarLoft$Row;", Cond.methodLink RX2 34 yX1_largestNext, Cond.instanceMethod yX1_largestNext, Cond.selects RX1 yX1_largestNext yX1_largestNext, Cond.initialized RX1, Cond.code yX1_largestNext cX1_largestNext 1 (some .int), Cond.fieldLink RX1 18 "VinegarLoft$Row" "count" "I", Cond.fieldLink RX1 11 "VinegarLoft$Row" "line" "[LVinegarLoft$Barrel;", Cond.fieldLink RX1 36 "VinegarLoft$Barrel" "size" "I", Cond.methodLink RX2 40 yX1_isComplete, Cond.instanceMethod yX1_isComplete, Cond.selects RX1 yX1_isComplete yX1_isComplete, Cond.code yX1_isComplete cX1_isComplete 1 (some .boolean)]
def wsL_add_r2 : List Cond := [Cond.methodLink RX2 49 yX1_putBehind, Cond.instanceMethod yX1_putBehind, Cond.selects RX1 yX1_putBehind yX1_putBehind, Cond.code yX1_putBehind cX1_putBehind 4 (some .int), Cond.fieldLink RX1 43 "VinegarLoft$Barrel" "wood" "I", Cond.methodLink RX1 39 yX1_isComplete, Cond.methodLink RX1 46 yX0_clear, Cond.instanceMethod yX0_clear, Cond.selects RX0 yX0_clear yX0_clear, Cond.initialized RX0, Cond.code yX0_clear cX0_clear 1 none, Cond.fieldLink RX0 16 "VinegarLoft$Barrel" "litres" "D", Cond.fieldLink RX0 20 "VinegarLoft$Barrel" "age" "D", Cond.fieldLink RX0 23 "VinegarLoft$Barrel" "acid" "D", Cond.fieldLink RX0 26 "VinegarLoft$Barrel" "sugar" "D"]
def wsL_add : List Cond := .codeWith yL_add cL_add 5 (some .int) [(0, 10, 13, 13), (0, 10, 17, 15)] :: ((wsL_add_r1 ++ wsL_add_r2) ++ wsX20 ++ wsX10 ++ wsX00 ++ (vx_atS RX2 31 "java/lang/IllegalArgumentException" ["java/lang/RuntimeException", "java/lang/Exception"]).filter goodWord ++ (vx_atS RX2 48 "java/lang/IllegalStateException" ["java/lang/RuntimeException", "java/lang/Exception"]).filter goodWord)
def wsL_fill_r1 : List Cond := [Cond.classLink RL 13 "java/lang/IllegalArgumentException", Cond.methodLink RL 17 yX2_fill, Cond.instanceMethod yX2_fill, Cond.selects RX2 yX2_fill yX2_fill, Cond.initialized RX2, Cond.code yX2_fill cX2_fill 2 (some .double), Cond.classLink RX2 27 "java/lang/IllegalArgumentException", Cond.initialized "java/lang/IllegalArgumentException", Cond.fieldLink RX2 10 "VinegarLoft" "row" "LVinegarLoft$Row;", Cond.methodLink RX2 55 yX1_pourMust, Cond.instanceMethod yX1_pourMust, Cond.selects RX1 yX1_pourMust yX1_pourMust, Cond.initialized RX1, Cond.code yX1_pourMust cX1_pourMust 7 (some .double), Cond.fieldLink RX1 18 "VinegarLoft$Row" "count" "I", Cond.fieldLink RX1 11 "VinegarLoft$Row" "line" "[LVinegarLoft$Barrel;", Cond.fieldLink RX1 36 "VinegarLoft$Barrel" "size" "I", Cond.fieldLink RX1 49 "VinegarLoft$Barrel" "litres" "D", Cond.constantDouble RX1 52 (4629137466983448576), Cond.methodLink RX1 54 yX0_mixIn, Cond.instanceMethod yX0_mixIn, Cond.selects RX0 yX0_mixIn yX0_mixIn, Cond.initialized RX0, Cond.code yX0_mixIn cX0_mixIn 9 none]
def wsL_fill_r2 : List Cond := [Cond.fieldLink RX0 16 "VinegarLoft$Barrel" "litres" "D", Cond.fieldLink RX0 20 "VinegarLoft$Barrel" "age" "D", Cond.fieldLink RX0 23 "VinegarLoft$Barrel" "acid" "D", Cond.fieldLink RX0 26 "VinegarLoft$Barrel" "sugar" "D", Cond.methodLink RX0 29 yX0_mixed, Cond.static yX0_mixed, Cond.code yX0_mixed cX0_mixed 10 (some .double)]
def wsL_fill : List Cond := .codeWith yL_fill cL_fill 4 (some .int) [(0, 8, 11, 13)] :: ((wsL_fill_r1 ++ wsL_fill_r2) ++ wsX20 ++ wsX10 ++ wsX00 ++ (vx_atS RX2 31 "java/lang/IllegalArgumentException" ["java/lang/RuntimeException", "java/lang/Exception"]).filter goodWord)
def wsL_draw_r1 : List Cond := [Cond.classLink RL 13 "java/lang/IllegalArgumentException", Cond.methodLink RL 21 yX2_draw, Cond.instanceMethod yX2_draw, Cond.selects RX2 yX2_draw yX2_draw, Cond.initialized RX2, Cond.code yX2_draw cX2_draw 4 (some .int), Cond.classLink RX2 27 "java/lang/IllegalArgumentException", Cond.initialized "java/lang/IllegalArgumentException", Cond.fieldLink RX2 10 "VinegarLoft" "row" "LVinegarLoft$Row;", Cond.fieldLink RX2 19 "VinegarLoft" "drawnByKind" "[I", Cond.methodLink RX2 68 yX1_bottlesReady, Cond.instanceMethod yX1_bottlesReady, Cond.selects RX1 yX1_bottlesReady yX1_bottlesReady, Cond.initialized RX1, Cond.code yX1_bottlesReady cX1_bottlesReady 5 (some .int), Cond.fieldLink RX1 25 "VinegarLoft$Row" "drawnFrom" "I", Cond.fieldLink RX1 11 "VinegarLoft$Row" "line" "[LVinegarLoft$Barrel;", Cond.fieldLink RX1 66 "VinegarLoft$Barrel" "age" "D", Cond.constantDouble RX1 100 (4622945017495814144), Cond.fieldLink RX1 72 "VinegarLoft$Barrel" "sugar" "D", Cond.constantDouble RX1 102 (4627730092099895296), Cond.fieldLink RX1 28 "VinegarLoft$Row" "mayBeDrawn" "D", Cond.fieldLink RX1 49 "VinegarLoft$Barrel" "litres" "D", Cond.constantDouble RX1 104 (4591870180066957722)]
def wsL_draw_r2 : List Cond := [Cond.methodLink RX1 90 yX1_eldest, Cond.instanceMethod yX1_eldest, Cond.selects RX1 yX1_eldest yX1_eldest, Cond.code yX1_eldest cX1_eldest 5 (some .int), Cond.fieldLink RX1 18 "VinegarLoft$Row" "count" "I", Cond.methodLink RX1 83 yX0_isEmpty, Cond.instanceMethod yX0_isEmpty, Cond.selects RX0 yX0_isEmpty yX0_isEmpty, Cond.initialized RX0, Cond.code yX0_isEmpty cX0_isEmpty 1 (some .boolean), Cond.fieldLink RX0 16 "VinegarLoft$Barrel" "litres" "D", Cond.methodLink RX2 71 yX1_greatestAge, Cond.instanceMethod yX1_greatestAge, Cond.selects RX1 yX1_greatestAge yX1_greatestAge, Cond.code yX1_greatestAge cX1_greatestAge 2 (some .double), Cond.methodLink RX2 74 yX2_kindAt, Cond.static yX2_kindAt, Cond.code yX2_kindAt cX2_kindAt 2 (some .int), Cond.constantDouble RX2 142 (4625759767262920704), Cond.constantDouble RX2 144 (4627730092099895296), Cond.methodLink RX2 78 yX1_takeBottles, Cond.instanceMethod yX1_takeBottles, Cond.selects RX1 yX1_takeBottles yX1_takeBottles, Cond.code yX1_takeBottles cX1_takeBottles 4 none]
def wsL_draw_r3 : List Cond := [Cond.methodLink RX1 75 yX0_takeOut, Cond.instanceMethod yX0_takeOut, Cond.selects RX0 yX0_takeOut yX0_takeOut, Cond.code yX0_takeOut cX0_takeOut 3 none, Cond.methodLink RX0 33 yX0_clear, Cond.instanceMethod yX0_clear, Cond.selects RX0 yX0_clear yX0_clear, Cond.code yX0_clear cX0_clear 1 none, Cond.fieldLink RX0 20 "VinegarLoft$Barrel" "age" "D", Cond.fieldLink RX0 23 "VinegarLoft$Barrel" "acid" "D", Cond.fieldLink RX0 26 "VinegarLoft$Barrel" "sugar" "D"]
def wsL_draw : List Cond := .codeWith yL_draw cL_draw 4 (some .int) [(0, 9, 12, 13)] :: ((wsL_draw_r1 ++ (wsL_draw_r2 ++ wsL_draw_r3)) ++ wsX20 ++ wsX10 ++ wsX00 ++ (vx_atS RX2 31 "java/lang/IllegalArgumentException" ["java/lang/RuntimeException", "java/lang/Exception"]).filter goodWord)
def wsL_pourAway_r1 : List Cond := [Cond.classLink RL 28 "java/lang/IndexOutOfBoundsException", Cond.methodLink RL 25 yX2_pourAway, Cond.instanceMethod yX2_pourAway, Cond.selects RX2 yX2_pourAway yX2_pourAway, Cond.initialized RX2, Cond.code yX2_pourAway cX2_pourAway 5 (some .double), Cond.fieldLink RX2 86 "VinegarLoft$Barrel" "litres" "D", Cond.methodLink RX2 82 yX2_barrelNumbered, Cond.instanceMethod yX2_barrelNumbered, Cond.selects RX2 yX2_barrelNumbered yX2_barrelNumbered, Cond.code yX2_barrelNumbered cX2_barrelNumbered 2 (some (.object "VinegarLoft$Barrel")), Cond.classLink RX2 133 "java/lang/IndexOutOfBoundsException", Cond.initialized "java/lang/IndexOutOfBoundsException", Cond.fieldLink RX2 10 "VinegarLoft" "row" "LVinegarLoft$Row;", Cond.fieldLink RX2 100 "VinegarLoft$Row" "count" "I", Cond.fieldLink RX2 138 "VinegarLoft$Row" "line" "[LVinegarLoft$Barrel;", Cond.methodLink RX2 92 yX0_clear, Cond.instanceMethod yX0_clear, Cond.selects RX0 yX0_clear yX0_clear, Cond.initialized RX0, Cond.code yX0_clear cX0_clear 1 none, Cond.fieldLink RX0 16 "VinegarLoft$Barrel" "litres" "D", Cond.fieldLink RX0 20 "VinegarLoft$Barrel" "age" "D", Cond.fieldLink RX0 23 "VinegarLoft$Barrel" "acid" "D"]
def wsL_pourAway_r2 : List Cond := [Cond.fieldLink RX0 26 "VinegarLoft$Barrel" "sugar" "D"]
def wsL_pourAway : List Cond := .codeWith yL_pourAway cL_pourAway 4 (some .int) [(0, 8, 11, 28)] :: ((wsL_pourAway_r1 ++ wsL_pourAway_r2) ++ wsX00 ++ wsX20 ++ wsX10 ++ (vx_atS RX2 137 "java/lang/IndexOutOfBoundsException" ["java/lang/RuntimeException", "java/lang/Exception"]).filter goodWord)
def wsL_setWarmth : List Cond := .codeWith yL_setWarmth cL_setWarmth 3 (some .int) [(0, 5, 8, 13)] :: ([.classLink RL 13 "java/lang/IllegalArgumentException", .methodLink RL 30 yX2_setWarmth, .instanceMethod yX2_setWarmth, .selects RX2 yX2_setWarmth yX2_setWarmth, .initialized RX2, .code yX2_setWarmth cX2_setWarmth 2 none, .classLink RX2 27 "java/lang/IllegalArgumentException", .initialized "java/lang/IllegalArgumentException", .fieldLink RX2 10 "VinegarLoft" "row" "LVinegarLoft$Row;", .fieldLink RX2 97 "VinegarLoft$Row" "warmth" "I"] ++ wsX20 ++ wsX10 ++ (vx_atS RX2 31 "java/lang/IllegalArgumentException" ["java/lang/RuntimeException", "java/lang/Exception"]).filter goodWord)
def wsL_litresIn : List Cond := .codeWith yL_litresIn cL_litresIn 4 (some .int) [(0, 8, 11, 28)] :: ([.classLink RL 28 "java/lang/IndexOutOfBoundsException", .methodLink RL 34 yX2_litresIn, .instanceMethod yX2_litresIn, .selects RX2 yX2_litresIn yX2_litresIn, .initialized RX2, .code yX2_litresIn cX2_litresIn 2 (some .double), .fieldLink RX2 86 "VinegarLoft$Barrel" "litres" "D", .methodLink RX2 82 yX2_barrelNumbered, .instanceMethod yX2_barrelNumbered, .selects RX2 yX2_barrelNumbered yX2_barrelNumbered, .code yX2_barrelNumbered cX2_barrelNumbered 2 (some (.object "VinegarLoft$Barrel")), .classLink RX2 133 "java/lang/IndexOutOfBoundsException", .initialized "java/lang/IndexOutOfBoundsException", .fieldLink RX2 10 "VinegarLoft" "row" "LVinegarLoft$Row;", .fieldLink RX2 100 "VinegarLoft$Row" "count" "I", .fieldLink RX2 138 "VinegarLoft$Row" "line" "[LVinegarLoft$Barrel;"] ++ wsX00 ++ wsX20 ++ wsX10 ++ (vx_atS RX2 137 "java/lang/IndexOutOfBoundsException" ["java/lang/RuntimeException", "java/lang/Exception"]).filter goodWord)
def wsL_ageOf : List Cond := .codeWith yL_ageOf cL_ageOf 4 (some .int) [(0, 8, 11, 28)] :: ([.classLink RL 28 "java/lang/IndexOutOfBoundsException", .methodLink RL 37 yX2_ageOf, .instanceMethod yX2_ageOf, .selects RX2 yX2_ageOf yX2_ageOf, .initialized RX2, .code yX2_ageOf cX2_ageOf 2 (some .double), .fieldLink RX2 103 "VinegarLoft$Barrel" "age" "D", .methodLink RX2 82 yX2_barrelNumbered, .instanceMethod yX2_barrelNumbered, .selects RX2 yX2_barrelNumbered yX2_barrelNumbered, .code yX2_barrelNumbered cX2_barrelNumbered 2 (some (.object "VinegarLoft$Barrel")), .classLink RX2 133 "java/lang/IndexOutOfBoundsException", .initialized "java/lang/IndexOutOfBoundsException", .fieldLink RX2 10 "VinegarLoft" "row" "LVinegarLoft$Row;", .fieldLink RX2 100 "VinegarLoft$Row" "count" "I", .fieldLink RX2 138 "VinegarLoft$Row" "line" "[LVinegarLoft$Barrel;"] ++ wsX00 ++ wsX20 ++ wsX10 ++ (vx_atS RX2 137 "java/lang/IndexOutOfBoundsException" ["java/lang/RuntimeException", "java/lang/Exception"]).filter goodWord)
def wsL_acidOf : List Cond := .codeWith yL_acidOf cL_acidOf 4 (some .int) [(0, 8, 11, 28)] :: ([.classLink RL 28 "java/lang/IndexOutOfBoundsException", .methodLink RL 40 yX2_acidOf, .instanceMethod yX2_acidOf, .selects RX2 yX2_acidOf yX2_acidOf, .initialized RX2, .code yX2_acidOf cX2_acidOf 2 (some .double), .fieldLink RX2 106 "VinegarLoft$Barrel" "acid" "D", .methodLink RX2 82 yX2_barrelNumbered, .instanceMethod yX2_barrelNumbered, .selects RX2 yX2_barrelNumbered yX2_barrelNumbered, .code yX2_barrelNumbered cX2_barrelNumbered 2 (some (.object "VinegarLoft$Barrel")), .classLink RX2 133 "java/lang/IndexOutOfBoundsException", .initialized "java/lang/IndexOutOfBoundsException", .fieldLink RX2 10 "VinegarLoft" "row" "LVinegarLoft$Row;", .fieldLink RX2 100 "VinegarLoft$Row" "count" "I", .fieldLink RX2 138 "VinegarLoft$Row" "line" "[LVinegarLoft$Barrel;"] ++ wsX00 ++ wsX20 ++ wsX10 ++ (vx_atS RX2 137 "java/lang/IndexOutOfBoundsException" ["java/lang/RuntimeException", "java/lang/Exception"]).filter goodWord)
def wsL_sugarOf : List Cond := .codeWith yL_sugarOf cL_sugarOf 4 (some .int) [(0, 8, 11, 28)] :: ([.classLink RL 28 "java/lang/IndexOutOfBoundsException", .methodLink RL 43 yX2_sugarOf, .instanceMethod yX2_sugarOf, .selects RX2 yX2_sugarOf yX2_sugarOf, .initialized RX2, .code yX2_sugarOf cX2_sugarOf 2 (some .double), .fieldLink RX2 109 "VinegarLoft$Barrel" "sugar" "D", .methodLink RX2 82 yX2_barrelNumbered, .instanceMethod yX2_barrelNumbered, .selects RX2 yX2_barrelNumbered yX2_barrelNumbered, .code yX2_barrelNumbered cX2_barrelNumbered 2 (some (.object "VinegarLoft$Barrel")), .classLink RX2 133 "java/lang/IndexOutOfBoundsException", .initialized "java/lang/IndexOutOfBoundsException", .fieldLink RX2 10 "VinegarLoft" "row" "LVinegarLoft$Row;", .fieldLink RX2 100 "VinegarLoft$Row" "count" "I", .fieldLink RX2 138 "VinegarLoft$Row" "line" "[LVinegarLoft$Barrel;"] ++ wsX00 ++ wsX20 ++ wsX10 ++ (vx_atS RX2 137 "java/lang/IndexOutOfBoundsException" ["java/lang/RuntimeException", "java/lang/Exception"]).filter goodWord)
def wsL_tasteOf_r1 : List Cond := [Cond.classLink RL 28 "java/lang/IndexOutOfBoundsException", Cond.methodLink RL 46 yX2_tasteOf, Cond.instanceMethod yX2_tasteOf, Cond.selects RX2 yX2_tasteOf yX2_tasteOf, Cond.initialized RX2, Cond.code yX2_tasteOf cX2_tasteOf 2 (some .double), Cond.methodLink RX2 82 yX2_barrelNumbered, Cond.instanceMethod yX2_barrelNumbered, Cond.selects RX2 yX2_barrelNumbered yX2_barrelNumbered, Cond.code yX2_barrelNumbered cX2_barrelNumbered 2 (some (.object "VinegarLoft$Barrel")), Cond.classLink RX2 133 "java/lang/IndexOutOfBoundsException", Cond.initialized "java/lang/IndexOutOfBoundsException", Cond.fieldLink RX2 10 "VinegarLoft" "row" "LVinegarLoft$Row;", Cond.fieldLink RX2 100 "VinegarLoft$Row" "count" "I", Cond.fieldLink RX2 138 "VinegarLoft$Row" "line" "[LVinegarLoft$Barrel;", Cond.methodLink RX2 112 yX0_taste, Cond.instanceMethod yX0_taste, Cond.selects RX0 yX0_taste yX0_taste, Cond.initialized RX0, Cond.code yX0_taste cX0_taste 5 (some .double), Cond.fieldLink RX0 23 "VinegarLoft$Barrel" "acid" "D", Cond.constantDouble RX0 65 (4618441417868443648), Cond.constantDouble RX0 67 (4602678819172646912), Cond.fieldLink RX0 20 "VinegarLoft$Barrel" "age" "D"]
def wsL_tasteOf_r2 : List Cond := [Cond.constantDouble RX0 59 (4605380978949069210), Cond.fieldLink RX0 26 "VinegarLoft$Barrel" "sugar" "D", Cond.constantDouble RX0 69 (4613937818241073152), Cond.methodLink RX0 44 yX0_isEmpty, Cond.instanceMethod yX0_isEmpty, Cond.selects RX0 yX0_isEmpty yX0_isEmpty, Cond.code yX0_isEmpty cX0_isEmpty 1 (some .boolean), Cond.fieldLink RX0 16 "VinegarLoft$Barrel" "litres" "D"]
def wsL_tasteOf : List Cond := .codeWith yL_tasteOf cL_tasteOf 4 (some .int) [(0, 8, 11, 28)] :: ((wsL_tasteOf_r1 ++ wsL_tasteOf_r2) ++ wsX20 ++ wsX10 ++ wsX00 ++ (vx_atS RX2 137 "java/lang/IndexOutOfBoundsException" ["java/lang/RuntimeException", "java/lang/Exception"]).filter goodWord)
def wsL_bottles : List Cond := .codeWith yL_bottles cL_bottles 4 (some .int) [(0, 9, 12, 13)] :: ([.classLink RL 13 "java/lang/IllegalArgumentException", .methodLink RL 49 yX2_bottles, .instanceMethod yX2_bottles, .selects RX2 yX2_bottles yX2_bottles, .initialized RX2, .code yX2_bottles cX2_bottles 2 (some .int), .classLink RX2 27 "java/lang/IllegalArgumentException", .initialized "java/lang/IllegalArgumentException", .fieldLink RX2 19 "VinegarLoft" "drawnByKind" "[I"] ++ wsX20 ++ (vx_atS RX2 31 "java/lang/IllegalArgumentException" ["java/lang/RuntimeException", "java/lang/Exception"]).filter goodWord)
def wsL_law0_r1 : List Cond := [Cond.classLink RL 8 RX2, Cond.instantiable RX2 4, Cond.initialized RX2, Cond.classLink RL 53 RX3, Cond.instantiable RX3 13, Cond.initialized RX3, Cond.arrayClass .long, Cond.arrayClass .double, Cond.methodLink RL 52 yX2_init, Cond.instanceMethod yX2_init, Cond.code yX2_init cX2_init 1 none, Cond.methodLink RX2 1 objectInit, Cond.instanceMethod objectInit, Cond.code objectInit ⟨#[0xb1]⟩ 1 none, Cond.classLink RX2 7 RX1, Cond.instantiable RX1 5, Cond.initialized RX1, Cond.fieldLink RX2 10 "VinegarLoft" "row" "LVinegarLoft$Row;", Cond.fieldLink RX2 16 "VinegarLoft" "trial" "LVinegarLoft$Row;", Cond.arrayClass .int, Cond.fieldLink RX2 19 "VinegarLoft" "drawnByKind" "[I", Cond.fieldLink RX2 23 "VinegarLoft" "yearsGone" "I", Cond.methodLink RX2 9 yX1_init, Cond.instanceMethod yX1_init]
def wsL_law0_r2 : List Cond := [Cond.code yX1_init cX1_init 2 none, Cond.methodLink RX1 3 objectInit, Cond.classLink RX1 9 RX0, Cond.fieldLink RX1 11 "VinegarLoft$Row" "line" "[LVinegarLoft$Barrel;", Cond.instantiable RX0 6, Cond.initialized RX0, Cond.fieldLink RX1 18 "VinegarLoft$Row" "count" "I", Cond.fieldLink RX1 22 "VinegarLoft$Row" "warmth" "I", Cond.fieldLink RX1 25 "VinegarLoft$Row" "drawnFrom" "I", Cond.fieldLink RX1 28 "VinegarLoft$Row" "mayBeDrawn" "D", Cond.instanceMethod yX0_init, Cond.code yX0_init cX0_init 1 none, Cond.methodLink RX0 1 objectInit, Cond.methodLink RL 55 yX3_init, Cond.instanceMethod yX3_init, Cond.code yX3_init cX3_init 1 none, Cond.methodLink RX3 1 objectInit, Cond.fieldLink RX3 7 "VinegarLoftModel" "wood" "[I", Cond.fieldLink RX3 13 "VinegarLoftModel" "sizes" "[I", Cond.fieldLink RX3 16 "VinegarLoftModel" "holds" "[D", Cond.fieldLink RX3 20 "VinegarLoftModel" "copy" "[D", Cond.fieldLink RX3 23 "VinegarLoftModel" "warmth" "I", Cond.fieldLink RX3 27 "VinegarLoftModel" "quotaFrom" "I", Cond.methodLink RL 56 yL_add]
def wsL_law0_r3 : List Cond := [Cond.static yL_add, Cond.initialized RL, Cond.codeWith yL_add cL_add 5 (some .int) [(0, 10, 13, 13), (0, 10, 17, 15)], Cond.classLink RL 13 "java/lang/IllegalArgumentException", Cond.classLink RL 15 "java/lang/IllegalStateException", Cond.methodLink RL 7 yX2_add, Cond.instanceMethod yX2_add, Cond.selects RX2 yX2_add yX2_add, Cond.code yX2_add cX2_add 3 (some .int), Cond.classLink RX2 27 "java/lang/IllegalArgumentException", Cond.initialized "java/lang/IllegalArgumentException", Cond.classLink RX2 44 "java/lang/IllegalStateException", Cond.initialized "java/lang/IllegalStateException", Cond.methodLink RX2 34 yX1_largestNext, Cond.instanceMethod yX1_largestNext, Cond.selects RX1 yX1_largestNext yX1_largestNext, Cond.code yX1_largestNext cX1_largestNext 1 (some .int), Cond.fieldLink RX1 36 "VinegarLoft$Barrel" "size" "I", Cond.methodLink RX2 40 yX1_isComplete, Cond.instanceMethod yX1_isComplete, Cond.selects RX1 yX1_isComplete yX1_isComplete, Cond.code yX1_isComplete cX1_isComplete 1 (some .boolean), Cond.methodLink RX2 49 yX1_putBehind, Cond.instanceMethod yX1_putBehind]
def wsL_law0_r4 : List Cond := [Cond.selects RX1 yX1_putBehind yX1_putBehind, Cond.code yX1_putBehind cX1_putBehind 4 (some .int), Cond.fieldLink RX1 43 "VinegarLoft$Barrel" "wood" "I", Cond.methodLink RX1 39 yX1_isComplete, Cond.methodLink RX1 46 yX0_clear, Cond.instanceMethod yX0_clear, Cond.selects RX0 yX0_clear yX0_clear, Cond.code yX0_clear cX0_clear 1 none, Cond.fieldLink RX0 16 "VinegarLoft$Barrel" "litres" "D", Cond.fieldLink RX0 20 "VinegarLoft$Barrel" "age" "D", Cond.fieldLink RX0 23 "VinegarLoft$Barrel" "acid" "D", Cond.fieldLink RX0 26 "VinegarLoft$Barrel" "sugar" "D", Cond.methodLink RL 61 yX3_add, Cond.instanceMethod yX3_add, Cond.selects RX3 yX3_add yX3_add, Cond.code yX3_add cX3_add 4 (some .int), Cond.fieldLink RX3 33 "VinegarLoftModel" "many" "I", Cond.fieldLink RX3 30 "VinegarLoftModel" "thrown" "I", Cond.methodLink RL 62 yX3_thrown, Cond.instanceMethod yX3_thrown, Cond.selects RX3 yX3_thrown yX3_thrown, Cond.code yX3_thrown cX3_thrown 1 (some .int), Cond.methodLink RL 66 yL_fill, Cond.static yL_fill]
def wsL_law0_r5 : List Cond := [Cond.codeWith yL_fill cL_fill 4 (some .int) [(0, 8, 11, 13)], Cond.methodLink RL 17 yX2_fill, Cond.instanceMethod yX2_fill, Cond.selects RX2 yX2_fill yX2_fill, Cond.code yX2_fill cX2_fill 2 (some .double), Cond.methodLink RX2 55 yX1_pourMust, Cond.instanceMethod yX1_pourMust, Cond.selects RX1 yX1_pourMust yX1_pourMust, Cond.code yX1_pourMust cX1_pourMust 7 (some .double), Cond.fieldLink RX1 49 "VinegarLoft$Barrel" "litres" "D", Cond.constantDouble RX1 52 (4629137466983448576), Cond.methodLink RX1 54 yX0_mixIn, Cond.instanceMethod yX0_mixIn, Cond.selects RX0 yX0_mixIn yX0_mixIn, Cond.code yX0_mixIn cX0_mixIn 9 none, Cond.methodLink RX0 29 yX0_mixed, Cond.static yX0_mixed, Cond.code yX0_mixed cX0_mixed 10 (some .double), Cond.methodLink RL 69 yX3_fill, Cond.instanceMethod yX3_fill, Cond.selects RX3 yX3_fill yX3_fill, Cond.code yX3_fill cX3_fill 2 (some .double), Cond.methodLink RX3 110 yX3_room, Cond.instanceMethod yX3_room]
def wsL_law0_r6 : List Cond := [Cond.selects RX3 yX3_room yX3_room, Cond.code yX3_room cX3_room 1 (some .double), Cond.methodLink RX3 50 yX3_lesser, Cond.static yX3_lesser, Cond.code yX3_lesser cX3_lesser 4 (some .double), Cond.methodLink RX3 113 yX3_pours, Cond.instanceMethod yX3_pours, Cond.selects RX3 yX3_pours yX3_pours, Cond.code yX3_pours cX3_pours 3 (some .double), Cond.constantDouble RX3 40 (4629137466983448576), Cond.methodLink RX3 42 yX3_gets, Cond.instanceMethod yX3_gets, Cond.selects RX3 yX3_gets yX3_gets, Cond.code yX3_gets cX3_gets 10 none, Cond.methodLink RX3 36 yX3_mixes, Cond.instanceMethod yX3_mixes, Cond.selects RX3 yX3_mixes yX3_mixes, Cond.code yX3_mixes cX3_mixes 11 none, Cond.methodLink RL 70 yX2_topUp, Cond.instanceMethod yX2_topUp, Cond.selects RX2 yX2_topUp yX2_topUp, Cond.code yX2_topUp cX2_topUp 1 (some .double), Cond.methodLink RX2 59 yX1_passDown, Cond.instanceMethod yX1_passDown]
def wsL_law0_r7 : List Cond := [Cond.selects RX1 yX1_passDown yX1_passDown, Cond.code yX1_passDown cX1_passDown 4 (some .double), Cond.methodLink RX1 58 yX1_passBetween, Cond.static yX1_passBetween, Cond.code yX1_passBetween cX1_passBetween 8 (some .double), Cond.constantDouble RX1 62 (4606281698874543309), Cond.constantDouble RX1 64 (4602678819172646912), Cond.fieldLink RX1 66 "VinegarLoft$Barrel" "age" "D", Cond.fieldLink RX1 69 "VinegarLoft$Barrel" "acid" "D", Cond.fieldLink RX1 72 "VinegarLoft$Barrel" "sugar" "D", Cond.methodLink RX1 75 yX0_takeOut, Cond.instanceMethod yX0_takeOut, Cond.selects RX0 yX0_takeOut yX0_takeOut, Cond.code yX0_takeOut cX0_takeOut 3 none, Cond.methodLink RX0 33 yX0_clear, Cond.methodLink RL 74 yX3_topUp, Cond.instanceMethod yX3_topUp, Cond.selects RX3 yX3_topUp yX3_topUp, Cond.code yX3_topUp cX3_topUp 1 (some .double), Cond.methodLink RX3 117 yX3_topsUp, Cond.instanceMethod yX3_topsUp, Cond.selects RX3 yX3_topsUp yX3_topsUp, Cond.code yX3_topsUp cX3_topsUp 8 (some .double), Cond.constantDouble RX3 46 (4606281698874543309)]
def wsL_law0_r8 : List Cond := [Cond.constantDouble RX3 48 (4602678819172646912), Cond.methodLink RL 75 yX2_year, Cond.instanceMethod yX2_year, Cond.selects RX2 yX2_year yX2_year, Cond.code yX2_year cX2_year 1 (some .double), Cond.methodLink RX2 63 yX1_ageAll, Cond.instanceMethod yX1_ageAll, Cond.selects RX1 yX1_ageAll yX1_ageAll, Cond.code yX1_ageAll cX1_ageAll 6 (some .double), Cond.constantDouble RX1 94 (4598175219545276416), Cond.methodLink RX1 79 yX1_draughtNow, Cond.instanceMethod yX1_draughtNow, Cond.selects RX1 yX1_draughtNow yX1_draughtNow, Cond.code yX1_draughtNow cX1_draughtNow 3 (some .double), Cond.constantDouble RX1 96 (4587366580439587226), Cond.constantDouble RX1 98 (4596373779694328218), Cond.methodLink RX1 83 yX0_isEmpty, Cond.instanceMethod yX0_isEmpty, Cond.selects RX0 yX0_isEmpty yX0_isEmpty, Cond.code yX0_isEmpty cX0_isEmpty 1 (some .boolean), Cond.methodLink RX1 86 yX0_spendYear, Cond.instanceMethod yX0_spendYear, Cond.selects RX0 yX0_spendYear yX0_spendYear, Cond.code yX0_spendYear cX0_spendYear 9 (some .double)]
def wsL_law0_r9 : List Cond := [Cond.fieldLink RX0 7 "VinegarLoft$Barrel" "wood" "I", Cond.constantDouble RX0 48 (4634626229029306368), Cond.methodLink RX0 36 yX0_share, Cond.static yX0_share, Cond.code yX0_share cX0_share 1 (some .double), Cond.constantDouble RX0 71 (4581421828931458171), Cond.constantDouble RX0 73 (4584304132692975288), Cond.constantDouble RX0 75 (4585204852618449388), Cond.constantDouble RX0 77 (4582862980812216730), Cond.methodLink RX0 40 yX0_takeOut, Cond.methodLink RX0 44 yX0_isEmpty, Cond.methodLink RX0 50 yX0_sour, Cond.instanceMethod yX0_sour, Cond.selects RX0 yX0_sour yX0_sour, Cond.code yX0_sour cX0_sour 3 none, Cond.constantDouble RX0 53 (4626322717216342016), Cond.constantDouble RX0 55 (4620693217682128896), Cond.constantDouble RX0 57 (4603579539098121011), Cond.constantDouble RX0 59 (4605380978949069210), Cond.constantDouble RX0 61 (4591870180066957722), Cond.constantDouble RX0 63 (4622945017495814144), Cond.methodLink RX1 90 yX1_eldest, Cond.instanceMethod yX1_eldest, Cond.selects RX1 yX1_eldest yX1_eldest]
def wsL_law0_r10 : List Cond := [Cond.code yX1_eldest cX1_eldest 5 (some .int), Cond.methodLink RL 78 yX3_year, Cond.instanceMethod yX3_year, Cond.selects RX3 yX3_year yX3_year, Cond.code yX3_year cX3_year 1 (some .double), Cond.methodLink RX3 120 yX3_passes, Cond.instanceMethod yX3_passes, Cond.selects RX3 yX3_passes yX3_passes, Cond.code yX3_passes cX3_passes 4 (some .double), Cond.fieldLink RX3 95 "VinegarLoftModel" "years" "I", Cond.constantDouble RX3 102 (4598175219545276416), Cond.fieldLink RX3 104 "VinegarLoftModel" "quota" "D", Cond.methodLink RX3 88 yX3_isEmpty, Cond.instanceMethod yX3_isEmpty, Cond.selects RX3 yX3_isEmpty yX3_isEmpty, Cond.code yX3_isEmpty cX3_isEmpty 2 (some .boolean), Cond.methodLink RX3 92 yX3_ages, Cond.instanceMethod yX3_ages, Cond.selects RX3 yX3_ages yX3_ages, Cond.code yX3_ages cX3_ages 8 (some .double), Cond.constantDouble RX3 74 (4634626229029306368), Cond.constantDouble RX3 76 (4626322717216342016), Cond.constantDouble RX3 78 (4620693217682128896), Cond.constantDouble RX3 80 (4603579539098121011)]
def wsL_law0_r11 : List Cond := [Cond.constantDouble RX3 82 (4605380978949069210), Cond.constantDouble RX3 84 (4591870180066957722), Cond.constantDouble RX3 86 (4622945017495814144), Cond.methodLink RX3 66 yX3_share, Cond.static yX3_share, Cond.code yX3_share cX3_share 1 (some .double), Cond.constantDouble RX3 54 (4581421828931458171), Cond.constantDouble RX3 56 (4584304132692975288), Cond.constantDouble RX3 58 (4585204852618449388), Cond.constantDouble RX3 60 (4582862980812216730), Cond.methodLink RX3 70 yX3_draught, Cond.instanceMethod yX3_draught, Cond.selects RX3 yX3_draught yX3_draught, Cond.code yX3_draught cX3_draught 3 (some .double), Cond.constantDouble RX3 62 (4587366580439587226), Cond.constantDouble RX3 64 (4596373779694328218), Cond.methodLink RX3 98 yX3_oldestNow, Cond.instanceMethod yX3_oldestNow, Cond.selects RX3 yX3_oldestNow yX3_oldestNow, Cond.code yX3_oldestNow cX3_oldestNow 3 (some .int), Cond.methodLink RL 79 yL_draw, Cond.static yL_draw, Cond.codeWith yL_draw cL_draw 4 (some .int) [(0, 9, 12, 13)], Cond.methodLink RL 21 yX2_draw]
def wsL_law0_r12 : List Cond := [Cond.instanceMethod yX2_draw, Cond.selects RX2 yX2_draw yX2_draw, Cond.code yX2_draw cX2_draw 4 (some .int), Cond.methodLink RX2 68 yX1_bottlesReady, Cond.instanceMethod yX1_bottlesReady, Cond.selects RX1 yX1_bottlesReady yX1_bottlesReady, Cond.code yX1_bottlesReady cX1_bottlesReady 5 (some .int), Cond.constantDouble RX1 100 (4622945017495814144), Cond.constantDouble RX1 102 (4627730092099895296), Cond.constantDouble RX1 104 (4591870180066957722), Cond.methodLink RX2 71 yX1_greatestAge, Cond.instanceMethod yX1_greatestAge, Cond.selects RX1 yX1_greatestAge yX1_greatestAge, Cond.code yX1_greatestAge cX1_greatestAge 2 (some .double), Cond.methodLink RX2 74 yX2_kindAt, Cond.static yX2_kindAt, Cond.code yX2_kindAt cX2_kindAt 2 (some .int), Cond.constantDouble RX2 142 (4625759767262920704), Cond.constantDouble RX2 144 (4627730092099895296), Cond.methodLink RX2 78 yX1_takeBottles, Cond.instanceMethod yX1_takeBottles, Cond.selects RX1 yX1_takeBottles yX1_takeBottles, Cond.code yX1_takeBottles cX1_takeBottles 4 none, Cond.methodLink RL 82 yX3_draw]
def wsL_law0_r13 : List Cond := [Cond.instanceMethod yX3_draw, Cond.selects RX3 yX3_draw yX3_draw, Cond.code yX3_draw cX3_draw 7 (some .int), Cond.fieldLink RX3 126 "VinegarLoftModel" "young" "I", Cond.constantDouble RX3 129 (4625759767262920704), Cond.fieldLink RX3 131 "VinegarLoftModel" "ripe" "I", Cond.constantDouble RX3 108 (4627730092099895296), Cond.fieldLink RX3 134 "VinegarLoftModel" "old" "I", Cond.methodLink RX3 123 yX3_bottlesNow, Cond.instanceMethod yX3_bottlesNow, Cond.selects RX3 yX3_bottlesNow yX3_bottlesNow, Cond.code yX3_bottlesNow cX3_bottlesNow 4 (some .int), Cond.methodLink RX3 137 yX3_empties, Cond.instanceMethod yX3_empties, Cond.selects RX3 yX3_empties yX3_empties, Cond.code yX3_empties cX3_empties 2 none, Cond.methodLink RL 83 yL_pourAway, Cond.static yL_pourAway, Cond.codeWith yL_pourAway cL_pourAway 4 (some .int) [(0, 8, 11, 28)], Cond.classLink RL 28 "java/lang/IndexOutOfBoundsException", Cond.methodLink RL 25 yX2_pourAway, Cond.instanceMethod yX2_pourAway, Cond.selects RX2 yX2_pourAway yX2_pourAway, Cond.code yX2_pourAway cX2_pourAway 5 (some .double)]
def wsL_law0_r14 : List Cond := [Cond.fieldLink RX2 86 "VinegarLoft$Barrel" "litres" "D", Cond.methodLink RX2 82 yX2_barrelNumbered, Cond.instanceMethod yX2_barrelNumbered, Cond.selects RX2 yX2_barrelNumbered yX2_barrelNumbered, Cond.code yX2_barrelNumbered cX2_barrelNumbered 2 (some (.object "VinegarLoft$Barrel")), Cond.classLink RX2 133 "java/lang/IndexOutOfBoundsException", Cond.initialized "java/lang/IndexOutOfBoundsException", Cond.fieldLink RX2 100 "VinegarLoft$Row" "count" "I", Cond.fieldLink RX2 138 "VinegarLoft$Row" "line" "[LVinegarLoft$Barrel;", Cond.methodLink RX2 92 yX0_clear, Cond.methodLink RL 85 yX3_pourAway, Cond.instanceMethod yX3_pourAway, Cond.selects RX3 yX3_pourAway yX3_pourAway, Cond.code yX3_pourAway cX3_pourAway 4 (some .double), Cond.methodLink RX3 141 yX3_isThere, Cond.instanceMethod yX3_isThere, Cond.selects RX3 yX3_isThere yX3_isThere, Cond.code yX3_isThere cX3_isThere 2 (some .boolean), Cond.methodLink RL 86 yL_setWarmth, Cond.static yL_setWarmth, Cond.codeWith yL_setWarmth cL_setWarmth 3 (some .int) [(0, 5, 8, 13)], Cond.methodLink RL 30 yX2_setWarmth, Cond.instanceMethod yX2_setWarmth, Cond.selects RX2 yX2_setWarmth yX2_setWarmth]
def wsL_law0_r15 : List Cond := [Cond.code yX2_setWarmth cX2_setWarmth 2 none, Cond.fieldLink RX2 97 "VinegarLoft$Row" "warmth" "I", Cond.methodLink RL 89 yX3_setWarmth, Cond.instanceMethod yX3_setWarmth, Cond.selects RX3 yX3_setWarmth yX3_setWarmth, Cond.code yX3_setWarmth cX3_setWarmth 2 none, Cond.methodLink RL 90 yX2_barrels, Cond.instanceMethod yX2_barrels, Cond.selects RX2 yX2_barrels yX2_barrels, Cond.code yX2_barrels cX2_barrels 1 (some .int), Cond.methodLink RL 93 yX3_barrels, Cond.instanceMethod yX3_barrels, Cond.selects RX3 yX3_barrels yX3_barrels, Cond.code yX3_barrels cX3_barrels 1 (some .int), Cond.methodLink RL 94 yL_litresIn, Cond.static yL_litresIn, Cond.codeWith yL_litresIn cL_litresIn 4 (some .int) [(0, 8, 11, 28)], Cond.methodLink RL 34 yX2_litresIn, Cond.instanceMethod yX2_litresIn, Cond.selects RX2 yX2_litresIn yX2_litresIn, Cond.code yX2_litresIn cX2_litresIn 2 (some .double), Cond.methodLink RL 96 yX3_litresIn, Cond.instanceMethod yX3_litresIn, Cond.selects RX3 yX3_litresIn yX3_litresIn]
def wsL_law0_r16 : List Cond := [Cond.code yX3_litresIn cX3_litresIn 2 (some .double), Cond.methodLink RX3 144 yX3_of, Cond.instanceMethod yX3_of, Cond.selects RX3 yX3_of yX3_of, Cond.code yX3_of cX3_of 3 (some .double), Cond.methodLink RL 97 yL_ageOf, Cond.static yL_ageOf, Cond.codeWith yL_ageOf cL_ageOf 4 (some .int) [(0, 8, 11, 28)], Cond.methodLink RL 37 yX2_ageOf, Cond.instanceMethod yX2_ageOf, Cond.selects RX2 yX2_ageOf yX2_ageOf, Cond.code yX2_ageOf cX2_ageOf 2 (some .double), Cond.fieldLink RX2 103 "VinegarLoft$Barrel" "age" "D", Cond.methodLink RL 99 yX3_ageOf, Cond.instanceMethod yX3_ageOf, Cond.selects RX3 yX3_ageOf yX3_ageOf, Cond.code yX3_ageOf cX3_ageOf 2 (some .double), Cond.methodLink RL 100 yL_acidOf, Cond.static yL_acidOf, Cond.codeWith yL_acidOf cL_acidOf 4 (some .int) [(0, 8, 11, 28)], Cond.methodLink RL 40 yX2_acidOf, Cond.instanceMethod yX2_acidOf, Cond.selects RX2 yX2_acidOf yX2_acidOf, Cond.code yX2_acidOf cX2_acidOf 2 (some .double)]
def wsL_law0_r17 : List Cond := [Cond.fieldLink RX2 106 "VinegarLoft$Barrel" "acid" "D", Cond.methodLink RL 102 yX3_acidOf, Cond.instanceMethod yX3_acidOf, Cond.selects RX3 yX3_acidOf yX3_acidOf, Cond.code yX3_acidOf cX3_acidOf 2 (some .double), Cond.methodLink RL 103 yL_sugarOf, Cond.static yL_sugarOf, Cond.codeWith yL_sugarOf cL_sugarOf 4 (some .int) [(0, 8, 11, 28)], Cond.methodLink RL 43 yX2_sugarOf, Cond.instanceMethod yX2_sugarOf, Cond.selects RX2 yX2_sugarOf yX2_sugarOf, Cond.code yX2_sugarOf cX2_sugarOf 2 (some .double), Cond.fieldLink RX2 109 "VinegarLoft$Barrel" "sugar" "D", Cond.methodLink RL 105 yX3_sugarOf, Cond.instanceMethod yX3_sugarOf, Cond.selects RX3 yX3_sugarOf yX3_sugarOf, Cond.code yX3_sugarOf cX3_sugarOf 2 (some .double), Cond.methodLink RL 106 yL_tasteOf, Cond.static yL_tasteOf, Cond.codeWith yL_tasteOf cL_tasteOf 4 (some .int) [(0, 8, 11, 28)], Cond.methodLink RL 46 yX2_tasteOf, Cond.instanceMethod yX2_tasteOf, Cond.selects RX2 yX2_tasteOf yX2_tasteOf, Cond.code yX2_tasteOf cX2_tasteOf 2 (some .double)]
def wsL_law0_r18 : List Cond := [Cond.methodLink RX2 112 yX0_taste, Cond.instanceMethod yX0_taste, Cond.selects RX0 yX0_taste yX0_taste, Cond.code yX0_taste cX0_taste 5 (some .double), Cond.constantDouble RX0 65 (4618441417868443648), Cond.constantDouble RX0 67 (4602678819172646912), Cond.constantDouble RX0 69 (4613937818241073152), Cond.methodLink RL 108 yX3_tasteOf, Cond.instanceMethod yX3_tasteOf, Cond.selects RX3 yX3_tasteOf yX3_tasteOf, Cond.code yX3_tasteOf cX3_tasteOf 4 (some .double), Cond.constantDouble RX3 148 (4618441417868443648), Cond.constantDouble RX3 150 (4613937818241073152), Cond.methodLink RL 109 yX2_oldest, Cond.instanceMethod yX2_oldest, Cond.selects RX2 yX2_oldest yX2_oldest, Cond.code yX2_oldest cX2_oldest 1 (some .int), Cond.methodLink RX2 115 yX1_eldest, Cond.methodLink RL 112 yX3_oldest, Cond.instanceMethod yX3_oldest, Cond.selects RX3 yX3_oldest yX3_oldest, Cond.code yX3_oldest cX3_oldest 1 (some .int), Cond.methodLink RL 113 yX2_drawable, Cond.instanceMethod yX2_drawable]
def wsL_law0_r19 : List Cond := [Cond.selects RX2 yX2_drawable yX2_drawable, Cond.code yX2_drawable cX2_drawable 1 (some .int), Cond.methodLink RL 116 yX3_drawable, Cond.instanceMethod yX3_drawable, Cond.selects RX3 yX3_drawable yX3_drawable, Cond.code yX3_drawable cX3_drawable 1 (some .int), Cond.methodLink RL 117 yL_bottles, Cond.static yL_bottles, Cond.codeWith yL_bottles cL_bottles 4 (some .int) [(0, 9, 12, 13)], Cond.methodLink RL 49 yX2_bottles, Cond.instanceMethod yX2_bottles, Cond.selects RX2 yX2_bottles yX2_bottles, Cond.code yX2_bottles cX2_bottles 2 (some .int), Cond.methodLink RL 119 yX3_bottles, Cond.instanceMethod yX3_bottles, Cond.selects RX3 yX3_bottles yX3_bottles, Cond.code yX3_bottles cX3_bottles 2 (some .int), Cond.methodLink RL 120 yX2_years, Cond.instanceMethod yX2_years, Cond.selects RX2 yX2_years yX2_years, Cond.code yX2_years cX2_years 1 (some .int), Cond.methodLink RL 123 yX3_years, Cond.instanceMethod yX3_years, Cond.selects RX3 yX3_years yX3_years]
def wsL_law0_r20 : List Cond := [Cond.code yX3_years cX3_years 1 (some .int), Cond.methodLink RL 124 yX2_meanAge, Cond.instanceMethod yX2_meanAge, Cond.selects RX2 yX2_meanAge yX2_meanAge, Cond.code yX2_meanAge cX2_meanAge 3 (some .double), Cond.methodLink RX2 120 yX1_allLitres, Cond.instanceMethod yX1_allLitres, Cond.selects RX1 yX1_allLitres yX1_allLitres, Cond.code yX1_allLitres cX1_allLitres 4 (some .double), Cond.methodLink RX2 123 yX1_litresTimesAge, Cond.instanceMethod yX1_litresTimesAge, Cond.selects RX1 yX1_litresTimesAge yX1_litresTimesAge, Cond.code yX1_litresTimesAge cX1_litresTimesAge 4 (some .double), Cond.methodLink RL 127 yX3_meanAge, Cond.instanceMethod yX3_meanAge, Cond.selects RX3 yX3_meanAge yX3_meanAge, Cond.code yX3_meanAge cX3_meanAge 1 (some .double), Cond.methodLink RX3 152 yX3_mean, Cond.instanceMethod yX3_mean, Cond.selects RX3 yX3_mean yX3_mean, Cond.code yX3_mean cX3_mean 8 (some .double), Cond.methodLink RL 128 yX2_meanSugar, Cond.instanceMethod yX2_meanSugar, Cond.selects RX2 yX2_meanSugar yX2_meanSugar]
def wsL_law0_r21 : List Cond := [Cond.code yX2_meanSugar cX2_meanSugar 3 (some .double), Cond.methodLink RX2 126 yX1_litresTimesSugar, Cond.instanceMethod yX1_litresTimesSugar, Cond.selects RX1 yX1_litresTimesSugar yX1_litresTimesSugar, Cond.code yX1_litresTimesSugar cX1_litresTimesSugar 4 (some .double), Cond.methodLink RL 131 yX3_meanSugar, Cond.instanceMethod yX3_meanSugar, Cond.selects RX3 yX3_meanSugar yX3_meanSugar, Cond.code yX3_meanSugar cX3_meanSugar 1 (some .double), Cond.methodLink RL 132 yX2_firstBottleIn, Cond.instanceMethod yX2_firstBottleIn, Cond.selects RX2 yX2_firstBottleIn yX2_firstBottleIn, Cond.code yX2_firstBottleIn cX2_firstBottleIn 2 (some .int), Cond.methodLink RX2 129 yX1_copyFrom, Cond.instanceMethod yX1_copyFrom, Cond.selects RX1 yX1_copyFrom yX1_copyFrom, Cond.code yX1_copyFrom cX1_copyFrom 3 none, Cond.methodLink RX1 32 yX0_copyFrom, Cond.instanceMethod yX0_copyFrom, Cond.selects RX0 yX0_copyFrom yX0_copyFrom, Cond.code yX0_copyFrom cX0_copyFrom 2 none, Cond.fieldLink RX0 13 "VinegarLoft$Barrel" "size" "I", Cond.methodLink RL 135 yX3_firstBottleIn, Cond.instanceMethod yX3_firstBottleIn]
def wsL_law0_r22 : List Cond := [Cond.selects RX3 yX3_firstBottleIn yX3_firstBottleIn, Cond.code yX3_firstBottleIn cX3_firstBottleIn 13 (some .int)]
def wsL_law0 : List Cond := (wsL_law0_r1 ++ (wsL_law0_r2 ++ (wsL_law0_r3 ++ (wsL_law0_r4 ++ (wsL_law0_r5 ++ (wsL_law0_r6 ++ (wsL_law0_r7 ++ (wsL_law0_r8 ++ (wsL_law0_r9 ++ (wsL_law0_r10 ++ (wsL_law0_r11 ++ (wsL_law0_r12 ++ (wsL_law0_r13 ++ (wsL_law0_r14 ++ (wsL_law0_r15 ++ (wsL_law0_r16 ++ (wsL_law0_r17 ++ (wsL_law0_r18 ++ (wsL_law0_r19 ++ (wsL_law0_r20 ++ (wsL_law0_r21 ++ wsL_law0_r22))))))))))))))))))))) ++ wsX20 ++ wsX30 ++ wsX10 ++ wsX00 ++ ([] : List Cond)
def wsL_law : List Cond := wsL_law0 ++ (vx_atS RX2 31 "java/lang/IllegalArgumentException" ["java/lang/RuntimeException", "java/lang/Exception"]).filter goodWord ++ (vx_atS RX2 48 "java/lang/IllegalStateException" ["java/lang/RuntimeException", "java/lang/Exception"]).filter goodWord ++ (vx_atS RX2 137 "java/lang/IndexOutOfBoundsException" ["java/lang/RuntimeException", "java/lang/Exception"]).filter goodWord
end
section
set_option maxRecDepth 20000 in
theorem wsL_in_r1 : ∀ w ∈ wsL_law0_r1, w ∈ lw_tbl := fun w h => (goodIn_p wsL_law0_r1 [34, 37] (by decide +kernel) (by decide +kernel) w h).1
set_option maxRecDepth 20000 in
theorem wsL_in_r2 : ∀ w ∈ wsL_law0_r2, w ∈ lw_tbl := fun w h => (goodIn_p wsL_law0_r2 [42, 49, 477] (by decide +kernel) (by decide +kernel) w h).1
set_option maxRecDepth 20000 in
theorem wsL_in_r3 : ∀ w ∈ wsL_law0_r3, w ∈ lw_tbl := fun w h => (goodIn_p wsL_law0_r3 [257, 329, 334] (by decide +kernel) (by decide +kernel) w h).1
set_option maxRecDepth 20000 in
theorem wsL_in_r4 : ∀ w ∈ wsL_law0_r4, w ∈ lw_tbl := fun w h => (goodIn_p wsL_law0_r4 [354, 140, 527, 523] (by decide +kernel) (by decide +kernel) w h).1
set_option maxRecDepth 20000 in
theorem wsL_in_r5 : ∀ w ∈ wsL_law0_r5, w ∈ lw_tbl := fun w h => (goodIn_p wsL_law0_r5 [363, 247, 129, 132, 531] (by decide +kernel) (by decide +kernel) w h).1
set_option maxRecDepth 20000 in
theorem wsL_in_r6 : ∀ w ∈ wsL_law0_r6, w ∈ lw_tbl := fun w h => (goodIn_p wsL_law0_r6 [535, 538, 542, 547, 551, 116] (by decide +kernel) (by decide +kernel) w h).1
set_option maxRecDepth 20000 in
theorem wsL_in_r7 : ∀ w ∈ wsL_law0_r7, w ∈ lw_tbl := fun w h => (goodIn_p wsL_law0_r7 [120, 123, 136, 555, 559] (by decide +kernel) (by decide +kernel) w h).1
set_option maxRecDepth 20000 in
theorem wsL_in_r8 : ∀ w ∈ wsL_law0_r8, w ∈ lw_tbl := fun w h => (goodIn_p wsL_law0_r8 [144, 148, 152, 158, 162] (by decide +kernel) (by decide +kernel) w h).1
end
section
set_option maxRecDepth 20000 in
theorem wsL_in_r9 : ∀ w ∈ wsL_law0_r9, w ∈ lw_tbl := fun w h => (goodIn_p wsL_law0_r9 [165, 176] (by decide +kernel) (by decide +kernel) w h).1
set_option maxRecDepth 20000 in
theorem wsL_in_r10 : ∀ w ∈ wsL_law0_r10, w ∈ lw_tbl := fun w h => (goodIn_p wsL_law0_r10 [186, 565, 569, 573, 577] (by decide +kernel) (by decide +kernel) w h).1
set_option maxRecDepth 20000 in
theorem wsL_in_r11 : ∀ w ∈ wsL_law0_r11, w ∈ lw_tbl := fun w h => (goodIn_p wsL_law0_r11 [580, 588, 601] (by decide +kernel) (by decide +kernel) w h).1
set_option maxRecDepth 20000 in
theorem wsL_in_r12 : ∀ w ∈ wsL_law0_r12, w ∈ lw_tbl := fun w h => (goodIn_p wsL_law0_r12 [371, 204, 376, 379, 385] (by decide +kernel) (by decide +kernel) w h).1
set_option maxRecDepth 20000 in
theorem wsL_in_r13 : ∀ w ∈ wsL_law0_r13, w ∈ lw_tbl := fun w h => (goodIn_p wsL_law0_r13 [606, 610, 616, 393] (by decide +kernel) (by decide +kernel) w h).1
set_option maxRecDepth 20000 in
theorem wsL_in_r14 : ∀ w ∈ wsL_law0_r14, w ∈ lw_tbl := fun w h => (goodIn_p wsL_law0_r14 [397, 620, 624] (by decide +kernel) (by decide +kernel) w h).1
set_option maxRecDepth 20000 in
theorem wsL_in_r15 : ∀ w ∈ wsL_law0_r15, w ∈ lw_tbl := fun w h => (goodIn_p wsL_law0_r15 [421, 628, 191, 632, 429] (by decide +kernel) (by decide +kernel) w h).1
set_option maxRecDepth 20000 in
theorem wsL_in_r16 : ∀ w ∈ wsL_law0_r16, w ∈ lw_tbl := fun w h => (goodIn_p wsL_law0_r16 [636, 640, 436, 644, 443] (by decide +kernel) (by decide +kernel) w h).1
end
section
set_option maxRecDepth 20000 in
theorem wsL_in_r17 : ∀ w ∈ wsL_law0_r17, w ∈ lw_tbl := fun w h => (goodIn_p wsL_law0_r17 [648, 450, 652, 457] (by decide +kernel) (by decide +kernel) w h).1
set_option maxRecDepth 20000 in
theorem wsL_in_r18 : ∀ w ∈ wsL_law0_r18, w ∈ lw_tbl := fun w h => (goodIn_p wsL_law0_r18 [461, 656, 195, 662] (by decide +kernel) (by decide +kernel) w h).1
set_option maxRecDepth 20000 in
theorem wsL_in_r19 : ∀ w ∈ wsL_law0_r19, w ∈ lw_tbl := fun w h => (goodIn_p wsL_law0_r19 [200, 666, 471, 670, 211] (by decide +kernel) (by decide +kernel) w h).1
set_option maxRecDepth 20000 in
theorem wsL_in_r20 : ∀ w ∈ wsL_law0_r20, w ∈ lw_tbl := fun w h => (goodIn_p wsL_law0_r20 [674, 215, 219, 223, 678, 682] (by decide +kernel) (by decide +kernel) w h).1
set_option maxRecDepth 20000 in
theorem wsL_in_r21 : ∀ w ∈ wsL_law0_r21, w ∈ lw_tbl := fun w h => (goodIn_p wsL_law0_r21 [227, 231, 686, 235, 239, 243] (by decide +kernel) (by decide +kernel) w h).1
set_option maxRecDepth 20000 in
theorem wsL_in_r22 : ∀ w ∈ wsL_law0_r22, w ∈ lw_tbl := fun w h => (goodIn_p wsL_law0_r22 [690] (by decide +kernel) (by decide +kernel) w h).1
set_option maxRecDepth 20000 in
theorem wsL_in_wsX20 : ∀ w ∈ wsX20, w ∈ lw_tbl := by decide +kernel
set_option maxRecDepth 20000 in
theorem wsL_in_wsX30 : ∀ w ∈ wsX30, w ∈ lw_tbl := by decide +kernel
end
section
set_option maxRecDepth 20000 in
theorem wsL_in_wsX10 : ∀ w ∈ wsX10, w ∈ lw_tbl := by decide +kernel
set_option maxRecDepth 20000 in
theorem wsL_in_wsX00 : ∀ w ∈ wsX00, w ∈ lw_tbl := by decide +kernel
theorem wsL_law_in0 : ∀ w ∈ wsL_law0, w ∈ lw_tbl := List.forall_mem_append.mpr ⟨List.forall_mem_append.mpr ⟨List.forall_mem_append.mpr ⟨List.forall_mem_append.mpr ⟨List.forall_mem_append.mpr ⟨List.forall_mem_append.mpr ⟨wsL_in_r1, List.forall_mem_append.mpr ⟨wsL_in_r2, List.forall_mem_append.mpr ⟨wsL_in_r3, List.forall_mem_append.mpr ⟨wsL_in_r4, List.forall_mem_append.mpr ⟨wsL_in_r5, List.forall_mem_append.mpr ⟨wsL_in_r6, List.forall_mem_append.mpr ⟨wsL_in_r7, List.forall_mem_append.mpr ⟨wsL_in_r8, List.forall_mem_append.mpr ⟨wsL_in_r9, List.forall_mem_append.mpr ⟨wsL_in_r10, List.forall_mem_append.mpr ⟨wsL_in_r11, List.forall_mem_append.mpr ⟨wsL_in_r12, List.forall_mem_append.mpr ⟨wsL_in_r13, List.forall_mem_append.mpr ⟨wsL_in_r14, List.forall_mem_append.mpr ⟨wsL_in_r15, List.forall_mem_append.mpr ⟨wsL_in_r16, List.forall_mem_append.mpr ⟨wsL_in_r17, List.forall_mem_append.mpr ⟨wsL_in_r18, List.forall_mem_append.mpr ⟨wsL_in_r19, List.forall_mem_append.mpr ⟨wsL_in_r20, List.forall_mem_append.mpr ⟨wsL_in_r21, wsL_in_r22⟩⟩⟩⟩⟩⟩⟩⟩⟩⟩⟩⟩⟩⟩⟩⟩⟩⟩⟩⟩⟩, wsL_in_wsX20⟩, wsL_in_wsX30⟩, wsL_in_wsX10⟩, wsL_in_wsX00⟩, fun _ h => absurd h List.not_mem_nil⟩
theorem wsL_law_x0 : ∀ w ∈ (vx_atS RX2 31 "java/lang/IllegalArgumentException" ["java/lang/RuntimeException", "java/lang/Exception"]).filter goodWord, w ∈ lw_tbl := by decide +kernel
theorem wsL_law_x1 : ∀ w ∈ (vx_atS RX2 48 "java/lang/IllegalStateException" ["java/lang/RuntimeException", "java/lang/Exception"]).filter goodWord, w ∈ lw_tbl := by decide +kernel
theorem wsL_law_x2 : ∀ w ∈ (vx_atS RX2 137 "java/lang/IndexOutOfBoundsException" ["java/lang/RuntimeException", "java/lang/Exception"]).filter goodWord, w ∈ lw_tbl := by decide +kernel
theorem wsL_law_in : ∀ w ∈ wsL_law, w ∈ lw_tbl := fun w h => (List.mem_append.mp h).elim (fun h => (List.mem_append.mp h).elim (fun h => (List.mem_append.mp h).elim (fun h => wsL_law_in0 w h) (fun h => wsL_law_x0 w h)) (fun h => wsL_law_x1 w h)) (fun h => wsL_law_x2 w h)
theorem inlX0 : ∀ w ∈ wsX00, w ∈ wsL_law := fun _ h => List.mem_append_left _ (List.mem_append_left _ (List.mem_append_left _ (List.mem_append_left _ (List.mem_append_right _ h))))
theorem inX0 : ∀ w ∈ wsX00, w ∈ lw_tbl := fun w h => wsL_law_in w (inlX0 w h)
theorem inlX1 : ∀ w ∈ wsX10, w ∈ wsL_law := fun _ h => List.mem_append_left _ (List.mem_append_left _ (List.mem_append_left _ (List.mem_append_left _ (List.mem_append_left _ (List.mem_append_right _ h)))))
theorem inX1 : ∀ w ∈ wsX10, w ∈ lw_tbl := fun w h => wsL_law_in w (inlX1 w h)
theorem inlX2 : ∀ w ∈ wsX20, w ∈ wsL_law := fun _ h => List.mem_append_left _ (List.mem_append_left _ (List.mem_append_left _ (List.mem_append_left _ (List.mem_append_left _ (List.mem_append_left _ (List.mem_append_left _ (List.mem_append_right _ h)))))))
theorem inX2 : ∀ w ∈ wsX20, w ∈ lw_tbl := fun w h => wsL_law_in w (inlX2 w h)
theorem inlX3 : ∀ w ∈ wsX30, w ∈ wsL_law := fun _ h => List.mem_append_left _ (List.mem_append_left _ (List.mem_append_left _ (List.mem_append_left _ (List.mem_append_left _ (List.mem_append_left _ (List.mem_append_right _ h))))))
theorem inX3 : ∀ w ∈ wsX30, w ∈ lw_tbl := fun w h => wsL_law_in w (inlX3 w h)
end
section
theorem inJ0 : ∀ w ∈ wsJ00, w ∈ lw_tbl := by decide +kernel
theorem dX0_init_0 : decode cX0_init 0 = .ok (.aload_n 0, 1) := by decide +kernel
theorem dX0_init_1 : decode cX0_init 1 = .ok (.invokespecial 1, 3) := by decide +kernel
theorem dX0_init_4 : decode cX0_init 4 = .ok (.return_, 1) := by decide +kernel
theorem dX0_copyFrom_0 : decode cX0_copyFrom 0 = .ok (.aload_n 0, 1) := by decide +kernel
theorem dX0_copyFrom_1 : decode cX0_copyFrom 1 = .ok (.aload_n 1, 1) := by decide +kernel
theorem dX0_copyFrom_2 : decode cX0_copyFrom 2 = .ok (.getfield 7, 3) := by decide +kernel
theorem dX0_copyFrom_5 : decode cX0_copyFrom 5 = .ok (.putfield 7, 3) := by decide +kernel
theorem dX0_copyFrom_8 : decode cX0_copyFrom 8 = .ok (.aload_n 0, 1) := by decide +kernel
theorem dX0_copyFrom_9 : decode cX0_copyFrom 9 = .ok (.aload_n 1, 1) := by decide +kernel
theorem dX0_copyFrom_10 : decode cX0_copyFrom 10 = .ok (.getfield 13, 3) := by decide +kernel
theorem dX0_copyFrom_13 : decode cX0_copyFrom 13 = .ok (.putfield 13, 3) := by decide +kernel
theorem dX0_copyFrom_16 : decode cX0_copyFrom 16 = .ok (.aload_n 0, 1) := by decide +kernel
theorem dX0_copyFrom_17 : decode cX0_copyFrom 17 = .ok (.aload_n 1, 1) := by decide +kernel
theorem dX0_copyFrom_18 : decode cX0_copyFrom 18 = .ok (.getfield 16, 3) := by decide +kernel
theorem dX0_copyFrom_21 : decode cX0_copyFrom 21 = .ok (.putfield 16, 3) := by decide +kernel
theorem dX0_copyFrom_24 : decode cX0_copyFrom 24 = .ok (.aload_n 0, 1) := by decide +kernel
theorem dX0_copyFrom_25 : decode cX0_copyFrom 25 = .ok (.aload_n 1, 1) := by decide +kernel
theorem dX0_copyFrom_26 : decode cX0_copyFrom 26 = .ok (.getfield 20, 3) := by decide +kernel
theorem dX0_copyFrom_29 : decode cX0_copyFrom 29 = .ok (.putfield 20, 3) := by decide +kernel
theorem dX0_copyFrom_32 : decode cX0_copyFrom 32 = .ok (.aload_n 0, 1) := by decide +kernel
theorem dX0_copyFrom_33 : decode cX0_copyFrom 33 = .ok (.aload_n 1, 1) := by decide +kernel
theorem dX0_copyFrom_34 : decode cX0_copyFrom 34 = .ok (.getfield 23, 3) := by decide +kernel
theorem dX0_copyFrom_37 : decode cX0_copyFrom 37 = .ok (.putfield 23, 3) := by decide +kernel
theorem dX0_copyFrom_40 : decode cX0_copyFrom 40 = .ok (.aload_n 0, 1) := by decide +kernel
theorem dX0_copyFrom_41 : decode cX0_copyFrom 41 = .ok (.aload_n 1, 1) := by decide +kernel
theorem dX0_copyFrom_42 : decode cX0_copyFrom 42 = .ok (.getfield 26, 3) := by decide +kernel
theorem dX0_copyFrom_45 : decode cX0_copyFrom 45 = .ok (.putfield 26, 3) := by decide +kernel
theorem dX0_copyFrom_48 : decode cX0_copyFrom 48 = .ok (.return_, 1) := by decide +kernel
theorem dX0_isEmpty_0 : decode cX0_isEmpty 0 = .ok (.aload_n 0, 1) := by decide +kernel
theorem dX0_isEmpty_1 : decode cX0_isEmpty 1 = .ok (.getfield 16, 3) := by decide +kernel
theorem dX0_isEmpty_4 : decode cX0_isEmpty 4 = .ok (.dconst 0, 1) := by decide +kernel
theorem dX0_isEmpty_5 : decode cX0_isEmpty 5 = .ok (.dcmp .g, 1) := by decide +kernel
theorem dX0_isEmpty_6 : decode cX0_isEmpty 6 = .ok (.ifCond .gt 7, 3) := by decide +kernel
theorem dX0_isEmpty_9 : decode cX0_isEmpty 9 = .ok (.iconst 1, 1) := by decide +kernel
theorem dX0_isEmpty_10 : decode cX0_isEmpty 10 = .ok (.goto 4, 3) := by decide +kernel
theorem dX0_isEmpty_13 : decode cX0_isEmpty 13 = .ok (.iconst 0, 1) := by decide +kernel
theorem dX0_isEmpty_14 : decode cX0_isEmpty 14 = .ok (.ireturn, 1) := by decide +kernel
theorem dX0_clear_0 : decode cX0_clear 0 = .ok (.aload_n 0, 1) := by decide +kernel
theorem dX0_clear_1 : decode cX0_clear 1 = .ok (.dconst 0, 1) := by decide +kernel
theorem dX0_clear_2 : decode cX0_clear 2 = .ok (.putfield 16, 3) := by decide +kernel
theorem dX0_clear_5 : decode cX0_clear 5 = .ok (.aload_n 0, 1) := by decide +kernel
theorem dX0_clear_6 : decode cX0_clear 6 = .ok (.dconst 0, 1) := by decide +kernel
theorem dX0_clear_7 : decode cX0_clear 7 = .ok (.putfield 20, 3) := by decide +kernel
theorem dX0_clear_10 : decode cX0_clear 10 = .ok (.aload_n 0, 1) := by decide +kernel
theorem dX0_clear_11 : decode cX0_clear 11 = .ok (.dconst 0, 1) := by decide +kernel
theorem dX0_clear_12 : decode cX0_clear 12 = .ok (.putfield 23, 3) := by decide +kernel
theorem dX0_clear_15 : decode cX0_clear 15 = .ok (.aload_n 0, 1) := by decide +kernel
theorem dX0_clear_16 : decode cX0_clear 16 = .ok (.dconst 0, 1) := by decide +kernel
theorem dX0_clear_17 : decode cX0_clear 17 = .ok (.putfield 26, 3) := by decide +kernel
theorem dX0_clear_20 : decode cX0_clear 20 = .ok (.return_, 1) := by decide +kernel
set_option maxRecDepth 20000 in
theorem ggX0_mixIn_X0_mixed : GoodIn wsX0_mixIn wsX0_mixed := goodIn_r _ [8] (by decide +kernel) (by decide +kernel)
set_option maxRecDepth 20000 in
theorem gX0_mixIn_X0_mixed : GoodIn wsX0_mixIn (va_wsS RX0 29 yX0_mixed wsX0_mixed) := goodIn_app (goodIn_of _ (by decide +kernel)) ggX0_mixIn_X0_mixed
theorem dX0_mixIn_0 : decode cX0_mixIn 0 = .ok (.aload_n 0, 1) := by decide +kernel
theorem dX0_mixIn_1 : decode cX0_mixIn 1 = .ok (.aload_n 0, 1) := by decide +kernel
theorem dX0_mixIn_2 : decode cX0_mixIn 2 = .ok (.getfield 16, 3) := by decide +kernel
theorem dX0_mixIn_5 : decode cX0_mixIn 5 = .ok (.aload_n 0, 1) := by decide +kernel
theorem dX0_mixIn_6 : decode cX0_mixIn 6 = .ok (.getfield 20, 3) := by decide +kernel
theorem dX0_mixIn_9 : decode cX0_mixIn 9 = .ok (.dload_n 1, 1) := by decide +kernel
theorem dX0_mixIn_10 : decode cX0_mixIn 10 = .ok (.dload_n 3, 1) := by decide +kernel
theorem dX0_mixIn_11 : decode cX0_mixIn 11 = .ok (.invokestatic 29, 3) := by decide +kernel
theorem dX0_mixIn_14 : decode cX0_mixIn 14 = .ok (.putfield 20, 3) := by decide +kernel
theorem dX0_mixIn_17 : decode cX0_mixIn 17 = .ok (.aload_n 0, 1) := by decide +kernel
theorem dX0_mixIn_18 : decode cX0_mixIn 18 = .ok (.aload_n 0, 1) := by decide +kernel
theorem dX0_mixIn_19 : decode cX0_mixIn 19 = .ok (.getfield 16, 3) := by decide +kernel
theorem dX0_mixIn_22 : decode cX0_mixIn 22 = .ok (.aload_n 0, 1) := by decide +kernel
theorem dX0_mixIn_23 : decode cX0_mixIn 23 = .ok (.getfield 23, 3) := by decide +kernel
theorem dX0_mixIn_26 : decode cX0_mixIn 26 = .ok (.dload_n 1, 1) := by decide +kernel
theorem dX0_mixIn_27 : decode cX0_mixIn 27 = .ok (.dload 5, 2) := by decide +kernel
theorem dX0_mixIn_29 : decode cX0_mixIn 29 = .ok (.invokestatic 29, 3) := by decide +kernel
theorem dX0_mixIn_32 : decode cX0_mixIn 32 = .ok (.putfield 23, 3) := by decide +kernel
theorem dX0_mixIn_35 : decode cX0_mixIn 35 = .ok (.aload_n 0, 1) := by decide +kernel
theorem dX0_mixIn_36 : decode cX0_mixIn 36 = .ok (.aload_n 0, 1) := by decide +kernel
theorem dX0_mixIn_37 : decode cX0_mixIn 37 = .ok (.getfield 16, 3) := by decide +kernel
theorem dX0_mixIn_40 : decode cX0_mixIn 40 = .ok (.aload_n 0, 1) := by decide +kernel
theorem dX0_mixIn_41 : decode cX0_mixIn 41 = .ok (.getfield 26, 3) := by decide +kernel
theorem dX0_mixIn_44 : decode cX0_mixIn 44 = .ok (.dload_n 1, 1) := by decide +kernel
theorem dX0_mixIn_45 : decode cX0_mixIn 45 = .ok (.dload 7, 2) := by decide +kernel
theorem dX0_mixIn_47 : decode cX0_mixIn 47 = .ok (.invokestatic 29, 3) := by decide +kernel
theorem dX0_mixIn_50 : decode cX0_mixIn 50 = .ok (.putfield 26, 3) := by decide +kernel
theorem dX0_mixIn_53 : decode cX0_mixIn 53 = .ok (.aload_n 0, 1) := by decide +kernel
theorem dX0_mixIn_54 : decode cX0_mixIn 54 = .ok (.aload_n 0, 1) := by decide +kernel
theorem dX0_mixIn_55 : decode cX0_mixIn 55 = .ok (.getfield 16, 3) := by decide +kernel
theorem dX0_mixIn_58 : decode cX0_mixIn 58 = .ok (.dload_n 1, 1) := by decide +kernel
theorem dX0_mixIn_59 : decode cX0_mixIn 59 = .ok (.dadd, 1) := by decide +kernel
theorem dX0_mixIn_60 : decode cX0_mixIn 60 = .ok (.putfield 16, 3) := by decide +kernel
theorem dX0_mixIn_63 : decode cX0_mixIn 63 = .ok (.return_, 1) := by decide +kernel
set_option maxRecDepth 20000 in
theorem ggX0_takeOut_X0_clear : GoodIn wsX0_takeOut wsX0_clear := goodIn_r _ [6, 1, 7, 8, 9, 10, 11, 12, 13, 14, 15] (by decide +kernel) (by decide +kernel)
set_option maxRecDepth 20000 in
theorem gX0_takeOut_X0_clear : GoodIn wsX0_takeOut (wsV RX0 33 RX0 yX0_clear wsX0_clear) := goodIn_app (goodIn_of _ (by decide +kernel)) ggX0_takeOut_X0_clear
theorem dX0_takeOut_0 : decode cX0_takeOut 0 = .ok (.aload_n 0, 1) := by decide +kernel
theorem dX0_takeOut_1 : decode cX0_takeOut 1 = .ok (.aload_n 0, 1) := by decide +kernel
theorem dX0_takeOut_2 : decode cX0_takeOut 2 = .ok (.getfield 16, 3) := by decide +kernel
theorem dX0_takeOut_5 : decode cX0_takeOut 5 = .ok (.dload_n 1, 1) := by decide +kernel
theorem dX0_takeOut_6 : decode cX0_takeOut 6 = .ok (.dsub, 1) := by decide +kernel
theorem dX0_takeOut_7 : decode cX0_takeOut 7 = .ok (.putfield 16, 3) := by decide +kernel
theorem dX0_takeOut_10 : decode cX0_takeOut 10 = .ok (.aload_n 0, 1) := by decide +kernel
theorem dX0_takeOut_11 : decode cX0_takeOut 11 = .ok (.getfield 16, 3) := by decide +kernel
theorem dX0_takeOut_14 : decode cX0_takeOut 14 = .ok (.dconst 0, 1) := by decide +kernel
theorem dX0_takeOut_15 : decode cX0_takeOut 15 = .ok (.dcmp .g, 1) := by decide +kernel
theorem dX0_takeOut_16 : decode cX0_takeOut 16 = .ok (.ifCond .gt 7, 3) := by decide +kernel
theorem dX0_takeOut_19 : decode cX0_takeOut 19 = .ok (.aload_n 0, 1) := by decide +kernel
theorem dX0_takeOut_20 : decode cX0_takeOut 20 = .ok (.invokevirtual 33, 3) := by decide +kernel
theorem dX0_takeOut_23 : decode cX0_takeOut 23 = .ok (.return_, 1) := by decide +kernel
set_option maxRecDepth 20000 in
theorem ggX0_spendYear_X0_share : GoodIn wsX0_spendYear wsX0_share := goodIn_r _ [9, 10, 11, 12, 13] (by decide +kernel) (by decide +kernel)
set_option maxRecDepth 20000 in
theorem gX0_spendYear_X0_share : GoodIn wsX0_spendYear (va_wsS RX0 36 yX0_share wsX0_share) := goodIn_app (goodIn_of _ (by decide +kernel)) ggX0_spendYear_X0_share
set_option maxRecDepth 20000 in
theorem ggX0_spendYear_X0_takeOut : GoodIn wsX0_spendYear wsX0_takeOut := goodIn_r _ [17, 1, 18, 19, 20, 8, 21, 5, 22, 3, 37, 38, 39, 40, 41, 42] (by decide +kernel) (by decide +kernel)
set_option maxRecDepth 20000 in
theorem gX0_spendYear_X0_takeOut : GoodIn wsX0_spendYear (wsV RX0 40 RX0 yX0_takeOut wsX0_takeOut) := goodIn_app (goodIn_of _ (by decide +kernel)) ggX0_spendYear_X0_takeOut
set_option maxRecDepth 20000 in
theorem ggX0_spendYear_X0_isEmpty : GoodIn wsX0_spendYear wsX0_isEmpty := goodIn_r _ [26, 1, 37, 38, 39, 40, 41, 42] (by decide +kernel) (by decide +kernel)
set_option maxRecDepth 20000 in
theorem gX0_spendYear_X0_isEmpty : GoodIn wsX0_spendYear (wsV RX0 44 RX0 yX0_isEmpty wsX0_isEmpty) := goodIn_app (goodIn_of _ (by decide +kernel)) ggX0_spendYear_X0_isEmpty
set_option maxRecDepth 20000 in
theorem ggX0_spendYear_X0_sour : GoodIn wsX0_spendYear wsX0_sour := goodIn_r _ [30, 3, 31, 22, 32, 33, 34, 35, 36, 37, 38, 39, 40, 41, 42] (by decide +kernel) (by decide +kernel)
set_option maxRecDepth 20000 in
theorem gX0_spendYear_X0_sour : GoodIn wsX0_spendYear (wsV RX0 50 RX0 yX0_sour wsX0_sour) := goodIn_app (goodIn_of _ (by decide +kernel)) ggX0_spendYear_X0_sour
theorem dX0_spendYear_0 : decode cX0_spendYear 0 = .ok (.aload_n 0, 1) := by decide +kernel
theorem dX0_spendYear_1 : decode cX0_spendYear 1 = .ok (.getfield 16, 3) := by decide +kernel
theorem dX0_spendYear_4 : decode cX0_spendYear 4 = .ok (.dstore_n 3, 1) := by decide +kernel
theorem dX0_spendYear_5 : decode cX0_spendYear 5 = .ok (.aload_n 0, 1) := by decide +kernel
theorem dX0_spendYear_6 : decode cX0_spendYear 6 = .ok (.getfield 16, 3) := by decide +kernel
theorem dX0_spendYear_9 : decode cX0_spendYear 9 = .ok (.aload_n 0, 1) := by decide +kernel
theorem dX0_spendYear_10 : decode cX0_spendYear 10 = .ok (.getfield 7, 3) := by decide +kernel
theorem dX0_spendYear_13 : decode cX0_spendYear 13 = .ok (.invokestatic 36, 3) := by decide +kernel
theorem dX0_spendYear_16 : decode cX0_spendYear 16 = .ok (.dmul, 1) := by decide +kernel
theorem dX0_spendYear_17 : decode cX0_spendYear 17 = .ok (.dload_n 1, 1) := by decide +kernel
theorem dX0_spendYear_18 : decode cX0_spendYear 18 = .ok (.dmul, 1) := by decide +kernel
theorem dX0_spendYear_19 : decode cX0_spendYear 19 = .ok (.dstore 5, 2) := by decide +kernel
theorem dX0_spendYear_21 : decode cX0_spendYear 21 = .ok (.aload_n 0, 1) := by decide +kernel
theorem dX0_spendYear_22 : decode cX0_spendYear 22 = .ok (.dload 5, 2) := by decide +kernel
theorem dX0_spendYear_24 : decode cX0_spendYear 24 = .ok (.invokevirtual 40, 3) := by decide +kernel
theorem dX0_spendYear_27 : decode cX0_spendYear 27 = .ok (.aload_n 0, 1) := by decide +kernel
theorem dX0_spendYear_28 : decode cX0_spendYear 28 = .ok (.invokevirtual 44, 3) := by decide +kernel
theorem dX0_spendYear_31 : decode cX0_spendYear 31 = .ok (.ifCond .ne 51, 3) := by decide +kernel
theorem dX0_spendYear_34 : decode cX0_spendYear 34 = .ok (.aload_n 0, 1) := by decide +kernel
theorem dX0_spendYear_35 : decode cX0_spendYear 35 = .ok (.getfield 26, 3) := by decide +kernel
theorem dX0_spendYear_38 : decode cX0_spendYear 38 = .ok (.dload_n 3, 1) := by decide +kernel
theorem dX0_spendYear_39 : decode cX0_spendYear 39 = .ok (.dmul, 1) := by decide +kernel
theorem dX0_spendYear_40 : decode cX0_spendYear 40 = .ok (.aload_n 0, 1) := by decide +kernel
theorem dX0_spendYear_41 : decode cX0_spendYear 41 = .ok (.getfield 16, 3) := by decide +kernel
theorem dX0_spendYear_44 : decode cX0_spendYear 44 = .ok (.ddiv, 1) := by decide +kernel
theorem dX0_spendYear_45 : decode cX0_spendYear 45 = .ok (.dstore 7, 2) := by decide +kernel
theorem dX0_spendYear_47 : decode cX0_spendYear 47 = .ok (.aload_n 0, 1) := by decide +kernel
theorem dX0_spendYear_48 : decode cX0_spendYear 48 = .ok (.dload 7, 2) := by decide +kernel
theorem dX0_spendYear_50 : decode cX0_spendYear 50 = .ok (.ldc2_w 48, 3) := by decide +kernel
theorem dX0_spendYear_53 : decode cX0_spendYear 53 = .ok (.dcmp .l, 1) := by decide +kernel
theorem dX0_spendYear_54 : decode cX0_spendYear 54 = .ok (.ifCond .le 9, 3) := by decide +kernel
theorem dX0_spendYear_57 : decode cX0_spendYear 57 = .ok (.ldc2_w 48, 3) := by decide +kernel
theorem dX0_spendYear_60 : decode cX0_spendYear 60 = .ok (.goto 5, 3) := by decide +kernel
theorem dX0_spendYear_63 : decode cX0_spendYear 63 = .ok (.dload 7, 2) := by decide +kernel
theorem dX0_spendYear_65 : decode cX0_spendYear 65 = .ok (.putfield 26, 3) := by decide +kernel
theorem dX0_spendYear_68 : decode cX0_spendYear 68 = .ok (.aload_n 0, 1) := by decide +kernel
theorem dX0_spendYear_69 : decode cX0_spendYear 69 = .ok (.invokevirtual 50, 3) := by decide +kernel
theorem dX0_spendYear_72 : decode cX0_spendYear 72 = .ok (.aload_n 0, 1) := by decide +kernel
theorem dX0_spendYear_73 : decode cX0_spendYear 73 = .ok (.aload_n 0, 1) := by decide +kernel
theorem dX0_spendYear_74 : decode cX0_spendYear 74 = .ok (.getfield 20, 3) := by decide +kernel
theorem dX0_spendYear_77 : decode cX0_spendYear 77 = .ok (.dconst 1, 1) := by decide +kernel
theorem dX0_spendYear_78 : decode cX0_spendYear 78 = .ok (.dadd, 1) := by decide +kernel
theorem dX0_spendYear_79 : decode cX0_spendYear 79 = .ok (.putfield 20, 3) := by decide +kernel
theorem dX0_spendYear_82 : decode cX0_spendYear 82 = .ok (.dload 5, 2) := by decide +kernel
theorem dX0_spendYear_84 : decode cX0_spendYear 84 = .ok (.dreturn, 1) := by decide +kernel
theorem dX0_sour_0 : decode cX0_sour 0 = .ok (.aload_n 0, 1) := by decide +kernel
theorem dX0_sour_1 : decode cX0_sour 1 = .ok (.getfield 26, 3) := by decide +kernel
theorem dX0_sour_4 : decode cX0_sour 4 = .ok (.ldc2_w 53, 3) := by decide +kernel
theorem dX0_sour_7 : decode cX0_sour 7 = .ok (.dcmp .l, 1) := by decide +kernel
theorem dX0_sour_8 : decode cX0_sour 8 = .ok (.ifCond .le 41, 3) := by decide +kernel
theorem dX0_sour_11 : decode cX0_sour 11 = .ok (.aload_n 0, 1) := by decide +kernel
theorem dX0_sour_12 : decode cX0_sour 12 = .ok (.getfield 23, 3) := by decide +kernel
theorem dX0_sour_15 : decode cX0_sour 15 = .ok (.ldc2_w 55, 3) := by decide +kernel
theorem dX0_sour_18 : decode cX0_sour 18 = .ok (.dcmp .g, 1) := by decide +kernel
theorem dX0_sour_19 : decode cX0_sour 19 = .ok (.ifCond .ge 30, 3) := by decide +kernel
theorem dX0_sour_22 : decode cX0_sour 22 = .ok (.aload_n 0, 1) := by decide +kernel
theorem dX0_sour_23 : decode cX0_sour 23 = .ok (.aload_n 0, 1) := by decide +kernel
theorem dX0_sour_24 : decode cX0_sour 24 = .ok (.getfield 23, 3) := by decide +kernel
theorem dX0_sour_27 : decode cX0_sour 27 = .ok (.ldc2_w 57, 3) := by decide +kernel
theorem dX0_sour_30 : decode cX0_sour 30 = .ok (.dadd, 1) := by decide +kernel
theorem dX0_sour_31 : decode cX0_sour 31 = .ok (.putfield 23, 3) := by decide +kernel
theorem dX0_sour_34 : decode cX0_sour 34 = .ok (.aload_n 0, 1) := by decide +kernel
theorem dX0_sour_35 : decode cX0_sour 35 = .ok (.aload_n 0, 1) := by decide +kernel
theorem dX0_sour_36 : decode cX0_sour 36 = .ok (.getfield 26, 3) := by decide +kernel
theorem dX0_sour_39 : decode cX0_sour 39 = .ok (.ldc2_w 59, 3) := by decide +kernel
theorem dX0_sour_42 : decode cX0_sour 42 = .ok (.dsub, 1) := by decide +kernel
theorem dX0_sour_43 : decode cX0_sour 43 = .ok (.putfield 26, 3) := by decide +kernel
theorem dX0_sour_46 : decode cX0_sour 46 = .ok (.goto 31, 3) := by decide +kernel
theorem dX0_sour_49 : decode cX0_sour 49 = .ok (.aload_n 0, 1) := by decide +kernel
theorem dX0_sour_50 : decode cX0_sour 50 = .ok (.getfield 23, 3) := by decide +kernel
theorem dX0_sour_53 : decode cX0_sour 53 = .ok (.ldc2_w 61, 3) := by decide +kernel
theorem dX0_sour_56 : decode cX0_sour 56 = .ok (.dadd, 1) := by decide +kernel
theorem dX0_sour_57 : decode cX0_sour 57 = .ok (.dstore_n 1, 1) := by decide +kernel
theorem dX0_sour_58 : decode cX0_sour 58 = .ok (.aload_n 0, 1) := by decide +kernel
theorem dX0_sour_59 : decode cX0_sour 59 = .ok (.dload_n 1, 1) := by decide +kernel
theorem dX0_sour_60 : decode cX0_sour 60 = .ok (.ldc2_w 63, 3) := by decide +kernel
theorem dX0_sour_63 : decode cX0_sour 63 = .ok (.dcmp .l, 1) := by decide +kernel
theorem dX0_sour_64 : decode cX0_sour 64 = .ok (.ifCond .le 9, 3) := by decide +kernel
theorem dX0_sour_67 : decode cX0_sour 67 = .ok (.ldc2_w 63, 3) := by decide +kernel
theorem dX0_sour_70 : decode cX0_sour 70 = .ok (.goto 4, 3) := by decide +kernel
theorem dX0_sour_73 : decode cX0_sour 73 = .ok (.dload_n 1, 1) := by decide +kernel
theorem dX0_sour_74 : decode cX0_sour 74 = .ok (.putfield 23, 3) := by decide +kernel
theorem dX0_sour_77 : decode cX0_sour 77 = .ok (.return_, 1) := by decide +kernel
set_option maxRecDepth 20000 in
theorem ggX0_taste_X0_isEmpty : GoodIn wsX0_taste wsX0_isEmpty := goodIn_r _ [12, 13, 14, 15, 16, 17, 18, 19] (by decide +kernel) (by decide +kernel)
set_option maxRecDepth 20000 in
theorem gX0_taste_X0_isEmpty : GoodIn wsX0_taste (wsV RX0 44 RX0 yX0_isEmpty wsX0_isEmpty) := goodIn_app (goodIn_of _ (by decide +kernel)) ggX0_taste_X0_isEmpty
theorem dX0_taste_0 : decode cX0_taste 0 = .ok (.aload_n 0, 1) := by decide +kernel
theorem dX0_taste_1 : decode cX0_taste 1 = .ok (.invokevirtual 44, 3) := by decide +kernel
theorem dX0_taste_4 : decode cX0_taste 4 = .ok (.ifCond .eq 5, 3) := by decide +kernel
theorem dX0_taste_7 : decode cX0_taste 7 = .ok (.dconst 0, 1) := by decide +kernel
theorem dX0_taste_8 : decode cX0_taste 8 = .ok (.dreturn, 1) := by decide +kernel
theorem dX0_taste_9 : decode cX0_taste 9 = .ok (.aload_n 0, 1) := by decide +kernel
theorem dX0_taste_10 : decode cX0_taste 10 = .ok (.getfield 23, 3) := by decide +kernel
theorem dX0_taste_13 : decode cX0_taste 13 = .ok (.ldc2_w 65, 3) := by decide +kernel
theorem dX0_taste_16 : decode cX0_taste 16 = .ok (.dsub, 1) := by decide +kernel
theorem dX0_taste_17 : decode cX0_taste 17 = .ok (.dstore_n 1, 1) := by decide +kernel
theorem dX0_taste_18 : decode cX0_taste 18 = .ok (.dload_n 1, 1) := by decide +kernel
theorem dX0_taste_19 : decode cX0_taste 19 = .ok (.dconst 0, 1) := by decide +kernel
theorem dX0_taste_20 : decode cX0_taste 20 = .ok (.dcmp .g, 1) := by decide +kernel
theorem dX0_taste_21 : decode cX0_taste 21 = .ok (.ifCond .ge 8, 3) := by decide +kernel
theorem dX0_taste_24 : decode cX0_taste 24 = .ok (.dload_n 1, 1) := by decide +kernel
theorem dX0_taste_25 : decode cX0_taste 25 = .ok (.dneg, 1) := by decide +kernel
theorem dX0_taste_26 : decode cX0_taste 26 = .ok (.goto 4, 3) := by decide +kernel
theorem dX0_taste_29 : decode cX0_taste 29 = .ok (.dload_n 1, 1) := by decide +kernel
theorem dX0_taste_30 : decode cX0_taste 30 = .ok (.dstore_n 3, 1) := by decide +kernel
theorem dX0_taste_31 : decode cX0_taste 31 = .ok (.ldc2_w 67, 3) := by decide +kernel
theorem dX0_taste_34 : decode cX0_taste 34 = .ok (.aload_n 0, 1) := by decide +kernel
theorem dX0_taste_35 : decode cX0_taste 35 = .ok (.getfield 20, 3) := by decide +kernel
theorem dX0_taste_38 : decode cX0_taste 38 = .ok (.dmul, 1) := by decide +kernel
theorem dX0_taste_39 : decode cX0_taste 39 = .ok (.ldc2_w 59, 3) := by decide +kernel
theorem dX0_taste_42 : decode cX0_taste 42 = .ok (.aload_n 0, 1) := by decide +kernel
theorem dX0_taste_43 : decode cX0_taste 43 = .ok (.getfield 26, 3) := by decide +kernel
theorem dX0_taste_46 : decode cX0_taste 46 = .ok (.dmul, 1) := by decide +kernel
theorem dX0_taste_47 : decode cX0_taste 47 = .ok (.dadd, 1) := by decide +kernel
theorem dX0_taste_48 : decode cX0_taste 48 = .ok (.ldc2_w 69, 3) := by decide +kernel
theorem dX0_taste_51 : decode cX0_taste 51 = .ok (.dload_n 3, 1) := by decide +kernel
theorem dX0_taste_52 : decode cX0_taste 52 = .ok (.dmul, 1) := by decide +kernel
theorem dX0_taste_53 : decode cX0_taste 53 = .ok (.dsub, 1) := by decide +kernel
theorem dX0_taste_54 : decode cX0_taste 54 = .ok (.dreturn, 1) := by decide +kernel
theorem dX0_mixed_0 : decode cX0_mixed 0 = .ok (.dload_n 0, 1) := by decide +kernel
theorem dX0_mixed_1 : decode cX0_mixed 1 = .ok (.dload 4, 2) := by decide +kernel
theorem dX0_mixed_3 : decode cX0_mixed 3 = .ok (.dadd, 1) := by decide +kernel
theorem dX0_mixed_4 : decode cX0_mixed 4 = .ok (.dstore 8, 2) := by decide +kernel
theorem dX0_mixed_6 : decode cX0_mixed 6 = .ok (.dload 8, 2) := by decide +kernel
theorem dX0_mixed_8 : decode cX0_mixed 8 = .ok (.dconst 0, 1) := by decide +kernel
theorem dX0_mixed_9 : decode cX0_mixed 9 = .ok (.dcmp .l, 1) := by decide +kernel
theorem dX0_mixed_10 : decode cX0_mixed 10 = .ok (.ifCond .le 18, 3) := by decide +kernel
theorem dX0_mixed_13 : decode cX0_mixed 13 = .ok (.dload_n 0, 1) := by decide +kernel
theorem dX0_mixed_14 : decode cX0_mixed 14 = .ok (.dload_n 2, 1) := by decide +kernel
theorem dX0_mixed_15 : decode cX0_mixed 15 = .ok (.dmul, 1) := by decide +kernel
theorem dX0_mixed_16 : decode cX0_mixed 16 = .ok (.dload 4, 2) := by decide +kernel
theorem dX0_mixed_18 : decode cX0_mixed 18 = .ok (.dload 6, 2) := by decide +kernel
theorem dX0_mixed_20 : decode cX0_mixed 20 = .ok (.dmul, 1) := by decide +kernel
theorem dX0_mixed_21 : decode cX0_mixed 21 = .ok (.dadd, 1) := by decide +kernel
theorem dX0_mixed_22 : decode cX0_mixed 22 = .ok (.dload 8, 2) := by decide +kernel
theorem dX0_mixed_24 : decode cX0_mixed 24 = .ok (.ddiv, 1) := by decide +kernel
theorem dX0_mixed_25 : decode cX0_mixed 25 = .ok (.goto 4, 3) := by decide +kernel
theorem dX0_mixed_28 : decode cX0_mixed 28 = .ok (.dconst 0, 1) := by decide +kernel
theorem dX0_mixed_29 : decode cX0_mixed 29 = .ok (.dreturn, 1) := by decide +kernel
theorem dX0_share_0 : decode cX0_share 0 = .ok (.iload_n 0, 1) := by decide +kernel
theorem dX0_share_1 : decode cX0_share 1 = .ok (.tableswitch 39 0 2 #[27, 31, 35], 27) := by decide +kernel
theorem dX0_share_28 : decode cX0_share 28 = .ok (.ldc2_w 71, 3) := by decide +kernel
theorem dX0_share_31 : decode cX0_share 31 = .ok (.dreturn, 1) := by decide +kernel
theorem dX0_share_32 : decode cX0_share 32 = .ok (.ldc2_w 73, 3) := by decide +kernel
theorem dX0_share_35 : decode cX0_share 35 = .ok (.dreturn, 1) := by decide +kernel
theorem dX0_share_36 : decode cX0_share 36 = .ok (.ldc2_w 75, 3) := by decide +kernel
theorem dX0_share_39 : decode cX0_share 39 = .ok (.dreturn, 1) := by decide +kernel
theorem dX0_share_40 : decode cX0_share 40 = .ok (.ldc2_w 77, 3) := by decide +kernel
theorem dX0_share_43 : decode cX0_share 43 = .ok (.dreturn, 1) := by decide +kernel
set_option maxRecDepth 20000 in
theorem ggX1_init_X0_init : GoodIn wsX1_init wsX0_init := goodIn_r _ [13, 14, 2, 3] (by decide +kernel) (by decide +kernel)
set_option maxRecDepth 20000 in
theorem gX1_init_X0_init_n17 : GoodIn wsX1_init (wsX0_init) := ggX1_init_X0_init
theorem dX1_init_0 : decode cX1_init 0 = .ok (.aload_n 0, 1) := by decide +kernel
theorem dX1_init_1 : decode cX1_init 1 = .ok (.invokespecial 3, 3) := by decide +kernel
theorem dX1_init_4 : decode cX1_init 4 = .ok (.aload_n 0, 1) := by decide +kernel
theorem dX1_init_5 : decode cX1_init 5 = .ok (.bipush 8, 2) := by decide +kernel
theorem dX1_init_7 : decode cX1_init 7 = .ok (.anewarray 9, 3) := by decide +kernel
theorem dX1_init_10 : decode cX1_init 10 = .ok (.putfield 11, 3) := by decide +kernel
theorem dX1_init_13 : decode cX1_init 13 = .ok (.iconst 0, 1) := by decide +kernel
theorem dX1_init_14 : decode cX1_init 14 = .ok (.istore_n 1, 1) := by decide +kernel
theorem dX1_init_15 : decode cX1_init 15 = .ok (.iload_n 1, 1) := by decide +kernel
theorem dX1_init_16 : decode cX1_init 16 = .ok (.aload_n 0, 1) := by decide +kernel
theorem dX1_init_17 : decode cX1_init 17 = .ok (.getfield 11, 3) := by decide +kernel
theorem dX1_init_20 : decode cX1_init 20 = .ok (.arraylength, 1) := by decide +kernel
theorem dX1_init_21 : decode cX1_init 21 = .ok (.if_icmp .ge 22, 3) := by decide +kernel
theorem dX1_init_24 : decode cX1_init 24 = .ok (.aload_n 0, 1) := by decide +kernel
theorem dX1_init_25 : decode cX1_init 25 = .ok (.getfield 11, 3) := by decide +kernel
theorem dX1_init_28 : decode cX1_init 28 = .ok (.iload_n 1, 1) := by decide +kernel
theorem dX1_init_29 : decode cX1_init 29 = .ok (.new 9, 3) := by decide +kernel
theorem dX1_init_32 : decode cX1_init 32 = .ok (.dup, 1) := by decide +kernel
theorem dX1_init_33 : decode cX1_init 33 = .ok (.invokespecial 17, 3) := by decide +kernel
theorem dX1_init_36 : decode cX1_init 36 = .ok (.aastore, 1) := by decide +kernel
theorem dX1_init_37 : decode cX1_init 37 = .ok (.iinc 1 1, 3) := by decide +kernel
theorem dX1_init_40 : decode cX1_init 40 = .ok (.goto (-25), 3) := by decide +kernel
theorem dX1_init_43 : decode cX1_init 43 = .ok (.aload_n 0, 1) := by decide +kernel
theorem dX1_init_44 : decode cX1_init 44 = .ok (.iconst 0, 1) := by decide +kernel
theorem dX1_init_45 : decode cX1_init 45 = .ok (.putfield 18, 3) := by decide +kernel
theorem dX1_init_48 : decode cX1_init 48 = .ok (.aload_n 0, 1) := by decide +kernel
theorem dX1_init_49 : decode cX1_init 49 = .ok (.bipush 18, 2) := by decide +kernel
theorem dX1_init_51 : decode cX1_init 51 = .ok (.putfield 22, 3) := by decide +kernel
theorem dX1_init_54 : decode cX1_init 54 = .ok (.aload_n 0, 1) := by decide +kernel
theorem dX1_init_55 : decode cX1_init 55 = .ok (.iconst (-1), 1) := by decide +kernel
theorem dX1_init_56 : decode cX1_init 56 = .ok (.putfield 25, 3) := by decide +kernel
theorem dX1_init_59 : decode cX1_init 59 = .ok (.aload_n 0, 1) := by decide +kernel
theorem dX1_init_60 : decode cX1_init 60 = .ok (.dconst 0, 1) := by decide +kernel
theorem dX1_init_61 : decode cX1_init 61 = .ok (.putfield 28, 3) := by decide +kernel
theorem dX1_init_64 : decode cX1_init 64 = .ok (.return_, 1) := by decide +kernel
set_option maxRecDepth 20000 in
theorem ggX1_copyFrom_X0_copyFrom : GoodIn wsX1_copyFrom wsX0_copyFrom := goodIn_r _ [10, 11, 12, 13, 14, 15, 16, 22, 23, 24, 25, 26, 27] (by decide +kernel) (by decide +kernel)
set_option maxRecDepth 20000 in
theorem gX1_copyFrom_X0_copyFrom : GoodIn wsX1_copyFrom (wsV RX1 32 RX0 yX0_copyFrom wsX0_copyFrom) := goodIn_app (goodIn_of _ (by decide +kernel)) ggX1_copyFrom_X0_copyFrom
theorem dX1_copyFrom_0 : decode cX1_copyFrom 0 = .ok (.aload_n 0, 1) := by decide +kernel
theorem dX1_copyFrom_1 : decode cX1_copyFrom 1 = .ok (.aload_n 1, 1) := by decide +kernel
theorem dX1_copyFrom_2 : decode cX1_copyFrom 2 = .ok (.getfield 18, 3) := by decide +kernel
theorem dX1_copyFrom_5 : decode cX1_copyFrom 5 = .ok (.putfield 18, 3) := by decide +kernel
theorem dX1_copyFrom_8 : decode cX1_copyFrom 8 = .ok (.aload_n 0, 1) := by decide +kernel
theorem dX1_copyFrom_9 : decode cX1_copyFrom 9 = .ok (.aload_n 1, 1) := by decide +kernel
theorem dX1_copyFrom_10 : decode cX1_copyFrom 10 = .ok (.getfield 22, 3) := by decide +kernel
theorem dX1_copyFrom_13 : decode cX1_copyFrom 13 = .ok (.putfield 22, 3) := by decide +kernel
theorem dX1_copyFrom_16 : decode cX1_copyFrom 16 = .ok (.aload_n 0, 1) := by decide +kernel
theorem dX1_copyFrom_17 : decode cX1_copyFrom 17 = .ok (.aload_n 1, 1) := by decide +kernel
theorem dX1_copyFrom_18 : decode cX1_copyFrom 18 = .ok (.getfield 25, 3) := by decide +kernel
theorem dX1_copyFrom_21 : decode cX1_copyFrom 21 = .ok (.putfield 25, 3) := by decide +kernel
theorem dX1_copyFrom_24 : decode cX1_copyFrom 24 = .ok (.aload_n 0, 1) := by decide +kernel
theorem dX1_copyFrom_25 : decode cX1_copyFrom 25 = .ok (.aload_n 1, 1) := by decide +kernel
theorem dX1_copyFrom_26 : decode cX1_copyFrom 26 = .ok (.getfield 28, 3) := by decide +kernel
theorem dX1_copyFrom_29 : decode cX1_copyFrom 29 = .ok (.putfield 28, 3) := by decide +kernel
theorem dX1_copyFrom_32 : decode cX1_copyFrom 32 = .ok (.iconst 0, 1) := by decide +kernel
theorem dX1_copyFrom_33 : decode cX1_copyFrom 33 = .ok (.istore_n 2, 1) := by decide +kernel
theorem dX1_copyFrom_34 : decode cX1_copyFrom 34 = .ok (.iload_n 2, 1) := by decide +kernel
theorem dX1_copyFrom_35 : decode cX1_copyFrom 35 = .ok (.aload_n 0, 1) := by decide +kernel
theorem dX1_copyFrom_36 : decode cX1_copyFrom 36 = .ok (.getfield 18, 3) := by decide +kernel
theorem dX1_copyFrom_39 : decode cX1_copyFrom 39 = .ok (.if_icmp .ge 24, 3) := by decide +kernel
theorem dX1_copyFrom_42 : decode cX1_copyFrom 42 = .ok (.aload_n 0, 1) := by decide +kernel
theorem dX1_copyFrom_43 : decode cX1_copyFrom 43 = .ok (.getfield 11, 3) := by decide +kernel
theorem dX1_copyFrom_46 : decode cX1_copyFrom 46 = .ok (.iload_n 2, 1) := by decide +kernel
theorem dX1_copyFrom_47 : decode cX1_copyFrom 47 = .ok (.aaload, 1) := by decide +kernel
theorem dX1_copyFrom_48 : decode cX1_copyFrom 48 = .ok (.aload_n 1, 1) := by decide +kernel
theorem dX1_copyFrom_49 : decode cX1_copyFrom 49 = .ok (.getfield 11, 3) := by decide +kernel
theorem dX1_copyFrom_52 : decode cX1_copyFrom 52 = .ok (.iload_n 2, 1) := by decide +kernel
theorem dX1_copyFrom_53 : decode cX1_copyFrom 53 = .ok (.aaload, 1) := by decide +kernel
theorem dX1_copyFrom_54 : decode cX1_copyFrom 54 = .ok (.invokevirtual 32, 3) := by decide +kernel
theorem dX1_copyFrom_57 : decode cX1_copyFrom 57 = .ok (.iinc 2 1, 3) := by decide +kernel
theorem dX1_copyFrom_60 : decode cX1_copyFrom 60 = .ok (.goto (-26), 3) := by decide +kernel
theorem dX1_copyFrom_63 : decode cX1_copyFrom 63 = .ok (.return_, 1) := by decide +kernel
theorem dX1_isComplete_0 : decode cX1_isComplete 0 = .ok (.aload_n 0, 1) := by decide +kernel
theorem dX1_isComplete_1 : decode cX1_isComplete 1 = .ok (.getfield 18, 3) := by decide +kernel
theorem dX1_isComplete_4 : decode cX1_isComplete 4 = .ok (.aload_n 0, 1) := by decide +kernel
theorem dX1_isComplete_5 : decode cX1_isComplete 5 = .ok (.getfield 11, 3) := by decide +kernel
theorem dX1_isComplete_8 : decode cX1_isComplete 8 = .ok (.arraylength, 1) := by decide +kernel
theorem dX1_isComplete_9 : decode cX1_isComplete 9 = .ok (.if_icmp .lt 7, 3) := by decide +kernel
theorem dX1_isComplete_12 : decode cX1_isComplete 12 = .ok (.iconst 1, 1) := by decide +kernel
theorem dX1_isComplete_13 : decode cX1_isComplete 13 = .ok (.goto 4, 3) := by decide +kernel
theorem dX1_isComplete_16 : decode cX1_isComplete 16 = .ok (.iconst 0, 1) := by decide +kernel
theorem dX1_isComplete_17 : decode cX1_isComplete 17 = .ok (.ireturn, 1) := by decide +kernel
theorem dX1_largestNext_0 : decode cX1_largestNext 0 = .ok (.aload_n 0, 1) := by decide +kernel
theorem dX1_largestNext_1 : decode cX1_largestNext 1 = .ok (.getfield 18, 3) := by decide +kernel
theorem dX1_largestNext_4 : decode cX1_largestNext 4 = .ok (.ifCond .le 22, 3) := by decide +kernel
theorem dX1_largestNext_7 : decode cX1_largestNext 7 = .ok (.aload_n 0, 1) := by decide +kernel
theorem dX1_largestNext_8 : decode cX1_largestNext 8 = .ok (.getfield 11, 3) := by decide +kernel
theorem dX1_largestNext_11 : decode cX1_largestNext 11 = .ok (.aload_n 0, 1) := by decide +kernel
theorem dX1_largestNext_12 : decode cX1_largestNext 12 = .ok (.getfield 18, 3) := by decide +kernel
theorem dX1_largestNext_15 : decode cX1_largestNext 15 = .ok (.iconst 1, 1) := by decide +kernel
theorem dX1_largestNext_16 : decode cX1_largestNext 16 = .ok (.isub, 1) := by decide +kernel
theorem dX1_largestNext_17 : decode cX1_largestNext 17 = .ok (.aaload, 1) := by decide +kernel
theorem dX1_largestNext_18 : decode cX1_largestNext 18 = .ok (.getfield 36, 3) := by decide +kernel
theorem dX1_largestNext_21 : decode cX1_largestNext 21 = .ok (.iconst 1, 1) := by decide +kernel
theorem dX1_largestNext_22 : decode cX1_largestNext 22 = .ok (.isub, 1) := by decide +kernel
theorem dX1_largestNext_23 : decode cX1_largestNext 23 = .ok (.goto 5, 3) := by decide +kernel
theorem dX1_largestNext_26 : decode cX1_largestNext 26 = .ok (.bipush 100, 2) := by decide +kernel
theorem dX1_largestNext_28 : decode cX1_largestNext 28 = .ok (.ireturn, 1) := by decide +kernel
set_option maxRecDepth 20000 in
theorem ggX1_putBehind_X1_isComplete : GoodIn wsX1_putBehind wsX1_isComplete := goodIn_r _ [9, 2, 1, 19, 20, 21, 22, 23] (by decide +kernel) (by decide +kernel)
set_option maxRecDepth 20000 in
theorem gX1_putBehind_X1_isComplete : GoodIn wsX1_putBehind (wsV RX1 39 RX1 yX1_isComplete wsX1_isComplete) := goodIn_app (goodIn_of _ (by decide +kernel)) ggX1_putBehind_X1_isComplete
set_option maxRecDepth 20000 in
theorem ggX1_putBehind_X0_clear : GoodIn wsX1_putBehind wsX0_clear := goodIn_r _ [14, 15, 16, 17, 18, 24, 25, 26, 27, 28, 29] (by decide +kernel) (by decide +kernel)
set_option maxRecDepth 20000 in
theorem gX1_putBehind_X0_clear : GoodIn wsX1_putBehind (wsV RX1 46 RX0 yX0_clear wsX0_clear) := goodIn_app (goodIn_of _ (by decide +kernel)) ggX1_putBehind_X0_clear
theorem dX1_putBehind_0 : decode cX1_putBehind 0 = .ok (.aload_n 0, 1) := by decide +kernel
theorem dX1_putBehind_1 : decode cX1_putBehind 1 = .ok (.invokevirtual 39, 3) := by decide +kernel
theorem dX1_putBehind_4 : decode cX1_putBehind 4 = .ok (.ifCond .eq 5, 3) := by decide +kernel
theorem dX1_putBehind_7 : decode cX1_putBehind 7 = .ok (.iconst (-1), 1) := by decide +kernel
theorem dX1_putBehind_8 : decode cX1_putBehind 8 = .ok (.ireturn, 1) := by decide +kernel
theorem dX1_putBehind_9 : decode cX1_putBehind 9 = .ok (.aload_n 0, 1) := by decide +kernel
theorem dX1_putBehind_10 : decode cX1_putBehind 10 = .ok (.getfield 11, 3) := by decide +kernel
theorem dX1_putBehind_13 : decode cX1_putBehind 13 = .ok (.aload_n 0, 1) := by decide +kernel
theorem dX1_putBehind_14 : decode cX1_putBehind 14 = .ok (.getfield 18, 3) := by decide +kernel
theorem dX1_putBehind_17 : decode cX1_putBehind 17 = .ok (.aaload, 1) := by decide +kernel
theorem dX1_putBehind_18 : decode cX1_putBehind 18 = .ok (.astore_n 3, 1) := by decide +kernel
theorem dX1_putBehind_19 : decode cX1_putBehind 19 = .ok (.aload_n 3, 1) := by decide +kernel
theorem dX1_putBehind_20 : decode cX1_putBehind 20 = .ok (.iload_n 1, 1) := by decide +kernel
theorem dX1_putBehind_21 : decode cX1_putBehind 21 = .ok (.putfield 43, 3) := by decide +kernel
theorem dX1_putBehind_24 : decode cX1_putBehind 24 = .ok (.aload_n 3, 1) := by decide +kernel
theorem dX1_putBehind_25 : decode cX1_putBehind 25 = .ok (.iload_n 2, 1) := by decide +kernel
theorem dX1_putBehind_26 : decode cX1_putBehind 26 = .ok (.putfield 36, 3) := by decide +kernel
theorem dX1_putBehind_29 : decode cX1_putBehind 29 = .ok (.aload_n 3, 1) := by decide +kernel
theorem dX1_putBehind_30 : decode cX1_putBehind 30 = .ok (.invokevirtual 46, 3) := by decide +kernel
theorem dX1_putBehind_33 : decode cX1_putBehind 33 = .ok (.aload_n 0, 1) := by decide +kernel
theorem dX1_putBehind_34 : decode cX1_putBehind 34 = .ok (.dup, 1) := by decide +kernel
theorem dX1_putBehind_35 : decode cX1_putBehind 35 = .ok (.getfield 18, 3) := by decide +kernel
theorem dX1_putBehind_38 : decode cX1_putBehind 38 = .ok (.iconst 1, 1) := by decide +kernel
theorem dX1_putBehind_39 : decode cX1_putBehind 39 = .ok (.iadd, 1) := by decide +kernel
theorem dX1_putBehind_40 : decode cX1_putBehind 40 = .ok (.putfield 18, 3) := by decide +kernel
theorem dX1_putBehind_43 : decode cX1_putBehind 43 = .ok (.aload_n 0, 1) := by decide +kernel
theorem dX1_putBehind_44 : decode cX1_putBehind 44 = .ok (.getfield 18, 3) := by decide +kernel
theorem dX1_putBehind_47 : decode cX1_putBehind 47 = .ok (.iconst 1, 1) := by decide +kernel
theorem dX1_putBehind_48 : decode cX1_putBehind 48 = .ok (.isub, 1) := by decide +kernel
theorem dX1_putBehind_49 : decode cX1_putBehind 49 = .ok (.ireturn, 1) := by decide +kernel
set_option maxRecDepth 20000 in
theorem ggX1_pourMust_X0_mixIn : GoodIn wsX1_pourMust wsX0_mixIn := goodIn_r _ [10, 11, 12, 13, 14, 15, 16, 9, 17, 23, 24, 25, 26, 27, 28] (by decide +kernel) (by decide +kernel)
set_option maxRecDepth 20000 in
theorem gX1_pourMust_X0_mixIn : GoodIn wsX1_pourMust (wsV RX1 54 RX0 yX0_mixIn wsX0_mixIn) := goodIn_app (goodIn_of _ (by decide +kernel)) ggX1_pourMust_X0_mixIn
theorem dX1_pourMust_0 : decode cX1_pourMust 0 = .ok (.aload_n 0, 1) := by decide +kernel
theorem dX1_pourMust_1 : decode cX1_pourMust 1 = .ok (.getfield 18, 3) := by decide +kernel
theorem dX1_pourMust_4 : decode cX1_pourMust 4 = .ok (.ifCond .ne 5, 3) := by decide +kernel
theorem dX1_pourMust_7 : decode cX1_pourMust 7 = .ok (.dconst 0, 1) := by decide +kernel
theorem dX1_pourMust_8 : decode cX1_pourMust 8 = .ok (.dreturn, 1) := by decide +kernel
theorem dX1_pourMust_9 : decode cX1_pourMust 9 = .ok (.aload_n 0, 1) := by decide +kernel
theorem dX1_pourMust_10 : decode cX1_pourMust 10 = .ok (.getfield 11, 3) := by decide +kernel
theorem dX1_pourMust_13 : decode cX1_pourMust 13 = .ok (.iconst 0, 1) := by decide +kernel
theorem dX1_pourMust_14 : decode cX1_pourMust 14 = .ok (.aaload, 1) := by decide +kernel
theorem dX1_pourMust_15 : decode cX1_pourMust 15 = .ok (.astore_n 2, 1) := by decide +kernel
theorem dX1_pourMust_16 : decode cX1_pourMust 16 = .ok (.aload_n 2, 1) := by decide +kernel
theorem dX1_pourMust_17 : decode cX1_pourMust 17 = .ok (.getfield 36, 3) := by decide +kernel
theorem dX1_pourMust_20 : decode cX1_pourMust 20 = .ok (.i2d, 1) := by decide +kernel
theorem dX1_pourMust_21 : decode cX1_pourMust 21 = .ok (.aload_n 2, 1) := by decide +kernel
theorem dX1_pourMust_22 : decode cX1_pourMust 22 = .ok (.getfield 49, 3) := by decide +kernel
theorem dX1_pourMust_25 : decode cX1_pourMust 25 = .ok (.dsub, 1) := by decide +kernel
theorem dX1_pourMust_26 : decode cX1_pourMust 26 = .ok (.dstore_n 3, 1) := by decide +kernel
theorem dX1_pourMust_27 : decode cX1_pourMust 27 = .ok (.iload_n 1, 1) := by decide +kernel
theorem dX1_pourMust_28 : decode cX1_pourMust 28 = .ok (.i2d, 1) := by decide +kernel
theorem dX1_pourMust_29 : decode cX1_pourMust 29 = .ok (.dload_n 3, 1) := by decide +kernel
theorem dX1_pourMust_30 : decode cX1_pourMust 30 = .ok (.dcmp .g, 1) := by decide +kernel
theorem dX1_pourMust_31 : decode cX1_pourMust 31 = .ok (.ifCond .ge 8, 3) := by decide +kernel
theorem dX1_pourMust_34 : decode cX1_pourMust 34 = .ok (.iload_n 1, 1) := by decide +kernel
theorem dX1_pourMust_35 : decode cX1_pourMust 35 = .ok (.i2d, 1) := by decide +kernel
theorem dX1_pourMust_36 : decode cX1_pourMust 36 = .ok (.goto 4, 3) := by decide +kernel
theorem dX1_pourMust_39 : decode cX1_pourMust 39 = .ok (.dload_n 3, 1) := by decide +kernel
theorem dX1_pourMust_40 : decode cX1_pourMust 40 = .ok (.dstore 5, 2) := by decide +kernel
theorem dX1_pourMust_42 : decode cX1_pourMust 42 = .ok (.dload 5, 2) := by decide +kernel
theorem dX1_pourMust_44 : decode cX1_pourMust 44 = .ok (.dconst 0, 1) := by decide +kernel
theorem dX1_pourMust_45 : decode cX1_pourMust 45 = .ok (.dcmp .g, 1) := by decide +kernel
theorem dX1_pourMust_46 : decode cX1_pourMust 46 = .ok (.ifCond .gt 5, 3) := by decide +kernel
theorem dX1_pourMust_49 : decode cX1_pourMust 49 = .ok (.dconst 0, 1) := by decide +kernel
theorem dX1_pourMust_50 : decode cX1_pourMust 50 = .ok (.dreturn, 1) := by decide +kernel
theorem dX1_pourMust_51 : decode cX1_pourMust 51 = .ok (.aload_n 2, 1) := by decide +kernel
theorem dX1_pourMust_52 : decode cX1_pourMust 52 = .ok (.dload 5, 2) := by decide +kernel
theorem dX1_pourMust_54 : decode cX1_pourMust 54 = .ok (.dconst 0, 1) := by decide +kernel
theorem dX1_pourMust_55 : decode cX1_pourMust 55 = .ok (.dconst 1, 1) := by decide +kernel
theorem dX1_pourMust_56 : decode cX1_pourMust 56 = .ok (.ldc2_w 52, 3) := by decide +kernel
theorem dX1_pourMust_59 : decode cX1_pourMust 59 = .ok (.invokevirtual 54, 3) := by decide +kernel
theorem dX1_pourMust_62 : decode cX1_pourMust 62 = .ok (.dload 5, 2) := by decide +kernel
theorem dX1_pourMust_64 : decode cX1_pourMust 64 = .ok (.dreturn, 1) := by decide +kernel
set_option maxRecDepth 20000 in
theorem ggX1_passDown_X1_passBetween : GoodIn wsX1_passDown wsX1_passBetween := goodIn_r _ [6, 7, 8, 9, 10, 11, 12, 13, 14, 15, 16, 17, 18, 19, 20, 21, 22, 23, 24, 25, 26, 27, 28, 29, 30, 31, 32, 33, 39, 40, 41, 42, 43, 44] (by decide +kernel) (by decide +kernel)
set_option maxRecDepth 20000 in
theorem gX1_passDown_X1_passBetween : GoodIn wsX1_passDown (va_wsS RX1 58 yX1_passBetween wsX1_passBetween) := goodIn_app (goodIn_of _ (by decide +kernel)) ggX1_passDown_X1_passBetween
theorem dX1_passDown_0 : decode cX1_passDown 0 = .ok (.dconst 0, 1) := by decide +kernel
theorem dX1_passDown_1 : decode cX1_passDown 1 = .ok (.dstore_n 1, 1) := by decide +kernel
theorem dX1_passDown_2 : decode cX1_passDown 2 = .ok (.aload_n 0, 1) := by decide +kernel
theorem dX1_passDown_3 : decode cX1_passDown 3 = .ok (.getfield 18, 3) := by decide +kernel
theorem dX1_passDown_6 : decode cX1_passDown 6 = .ok (.iconst 1, 1) := by decide +kernel
theorem dX1_passDown_7 : decode cX1_passDown 7 = .ok (.isub, 1) := by decide +kernel
theorem dX1_passDown_8 : decode cX1_passDown 8 = .ok (.istore_n 3, 1) := by decide +kernel
theorem dX1_passDown_9 : decode cX1_passDown 9 = .ok (.iload_n 3, 1) := by decide +kernel
theorem dX1_passDown_10 : decode cX1_passDown 10 = .ok (.ifCond .le 29, 3) := by decide +kernel
theorem dX1_passDown_13 : decode cX1_passDown 13 = .ok (.dload_n 1, 1) := by decide +kernel
theorem dX1_passDown_14 : decode cX1_passDown 14 = .ok (.aload_n 0, 1) := by decide +kernel
theorem dX1_passDown_15 : decode cX1_passDown 15 = .ok (.getfield 11, 3) := by decide +kernel
theorem dX1_passDown_18 : decode cX1_passDown 18 = .ok (.iload_n 3, 1) := by decide +kernel
theorem dX1_passDown_19 : decode cX1_passDown 19 = .ok (.iconst 1, 1) := by decide +kernel
theorem dX1_passDown_20 : decode cX1_passDown 20 = .ok (.isub, 1) := by decide +kernel
theorem dX1_passDown_21 : decode cX1_passDown 21 = .ok (.aaload, 1) := by decide +kernel
theorem dX1_passDown_22 : decode cX1_passDown 22 = .ok (.aload_n 0, 1) := by decide +kernel
theorem dX1_passDown_23 : decode cX1_passDown 23 = .ok (.getfield 11, 3) := by decide +kernel
theorem dX1_passDown_26 : decode cX1_passDown 26 = .ok (.iload_n 3, 1) := by decide +kernel
theorem dX1_passDown_27 : decode cX1_passDown 27 = .ok (.aaload, 1) := by decide +kernel
theorem dX1_passDown_28 : decode cX1_passDown 28 = .ok (.invokestatic 58, 3) := by decide +kernel
theorem dX1_passDown_31 : decode cX1_passDown 31 = .ok (.dadd, 1) := by decide +kernel
theorem dX1_passDown_32 : decode cX1_passDown 32 = .ok (.dstore_n 1, 1) := by decide +kernel
theorem dX1_passDown_33 : decode cX1_passDown 33 = .ok (.iinc 3 (-1), 3) := by decide +kernel
theorem dX1_passDown_36 : decode cX1_passDown 36 = .ok (.goto (-27), 3) := by decide +kernel
theorem dX1_passDown_39 : decode cX1_passDown 39 = .ok (.dload_n 1, 1) := by decide +kernel
theorem dX1_passDown_40 : decode cX1_passDown 40 = .ok (.dreturn, 1) := by decide +kernel
set_option maxRecDepth 20000 in
theorem ggX1_passBetween_X0_mixIn : GoodIn wsX1_passBetween wsX0_mixIn := goodIn_r _ [12, 13, 14, 15, 16, 17, 18, 11, 19, 28, 29, 30, 31, 32, 33] (by decide +kernel) (by decide +kernel)
set_option maxRecDepth 20000 in
theorem gX1_passBetween_X0_mixIn : GoodIn wsX1_passBetween (wsV RX1 54 RX0 yX0_mixIn wsX0_mixIn) := goodIn_app (goodIn_of _ (by decide +kernel)) ggX1_passBetween_X0_mixIn
set_option maxRecDepth 20000 in
theorem ggX1_passBetween_X0_takeOut : GoodIn wsX1_passBetween wsX0_takeOut := goodIn_r _ [23, 13, 24, 25, 26, 11, 27, 14, 15, 16, 28, 29, 30, 31, 32, 33] (by decide +kernel) (by decide +kernel)
set_option maxRecDepth 20000 in
theorem gX1_passBetween_X0_takeOut : GoodIn wsX1_passBetween (wsV RX1 75 RX0 yX0_takeOut wsX0_takeOut) := goodIn_app (goodIn_of _ (by decide +kernel)) ggX1_passBetween_X0_takeOut
theorem dX1_passBetween_0 : decode cX1_passBetween 0 = .ok (.ldc2_w 62, 3) := by decide +kernel
theorem dX1_passBetween_3 : decode cX1_passBetween 3 = .ok (.aload_n 1, 1) := by decide +kernel
theorem dX1_passBetween_4 : decode cX1_passBetween 4 = .ok (.getfield 36, 3) := by decide +kernel
theorem dX1_passBetween_7 : decode cX1_passBetween 7 = .ok (.i2d, 1) := by decide +kernel
theorem dX1_passBetween_8 : decode cX1_passBetween 8 = .ok (.dmul, 1) := by decide +kernel
theorem dX1_passBetween_9 : decode cX1_passBetween 9 = .ok (.aload_n 1, 1) := by decide +kernel
theorem dX1_passBetween_10 : decode cX1_passBetween 10 = .ok (.getfield 49, 3) := by decide +kernel
theorem dX1_passBetween_13 : decode cX1_passBetween 13 = .ok (.dsub, 1) := by decide +kernel
theorem dX1_passBetween_14 : decode cX1_passBetween 14 = .ok (.dstore_n 2, 1) := by decide +kernel
theorem dX1_passBetween_15 : decode cX1_passBetween 15 = .ok (.ldc2_w 64, 3) := by decide +kernel
theorem dX1_passBetween_18 : decode cX1_passBetween 18 = .ok (.aload_n 0, 1) := by decide +kernel
theorem dX1_passBetween_19 : decode cX1_passBetween 19 = .ok (.getfield 49, 3) := by decide +kernel
theorem dX1_passBetween_22 : decode cX1_passBetween 22 = .ok (.dmul, 1) := by decide +kernel
theorem dX1_passBetween_23 : decode cX1_passBetween 23 = .ok (.dstore 4, 2) := by decide +kernel
theorem dX1_passBetween_25 : decode cX1_passBetween 25 = .ok (.dload_n 2, 1) := by decide +kernel
theorem dX1_passBetween_26 : decode cX1_passBetween 26 = .ok (.dload 4, 2) := by decide +kernel
theorem dX1_passBetween_28 : decode cX1_passBetween 28 = .ok (.dcmp .g, 1) := by decide +kernel
theorem dX1_passBetween_29 : decode cX1_passBetween 29 = .ok (.ifCond .ge 7, 3) := by decide +kernel
theorem dX1_passBetween_32 : decode cX1_passBetween 32 = .ok (.dload_n 2, 1) := by decide +kernel
theorem dX1_passBetween_33 : decode cX1_passBetween 33 = .ok (.goto 5, 3) := by decide +kernel
theorem dX1_passBetween_36 : decode cX1_passBetween 36 = .ok (.dload 4, 2) := by decide +kernel
theorem dX1_passBetween_38 : decode cX1_passBetween 38 = .ok (.dstore 6, 2) := by decide +kernel
theorem dX1_passBetween_40 : decode cX1_passBetween 40 = .ok (.dload 6, 2) := by decide +kernel
theorem dX1_passBetween_42 : decode cX1_passBetween 42 = .ok (.dconst 0, 1) := by decide +kernel
theorem dX1_passBetween_43 : decode cX1_passBetween 43 = .ok (.dcmp .g, 1) := by decide +kernel
theorem dX1_passBetween_44 : decode cX1_passBetween 44 = .ok (.ifCond .gt 5, 3) := by decide +kernel
theorem dX1_passBetween_47 : decode cX1_passBetween 47 = .ok (.dconst 0, 1) := by decide +kernel
theorem dX1_passBetween_48 : decode cX1_passBetween 48 = .ok (.dreturn, 1) := by decide +kernel
theorem dX1_passBetween_49 : decode cX1_passBetween 49 = .ok (.aload_n 1, 1) := by decide +kernel
theorem dX1_passBetween_50 : decode cX1_passBetween 50 = .ok (.dload 6, 2) := by decide +kernel
theorem dX1_passBetween_52 : decode cX1_passBetween 52 = .ok (.aload_n 0, 1) := by decide +kernel
theorem dX1_passBetween_53 : decode cX1_passBetween 53 = .ok (.getfield 66, 3) := by decide +kernel
theorem dX1_passBetween_56 : decode cX1_passBetween 56 = .ok (.aload_n 0, 1) := by decide +kernel
theorem dX1_passBetween_57 : decode cX1_passBetween 57 = .ok (.getfield 69, 3) := by decide +kernel
theorem dX1_passBetween_60 : decode cX1_passBetween 60 = .ok (.aload_n 0, 1) := by decide +kernel
theorem dX1_passBetween_61 : decode cX1_passBetween 61 = .ok (.getfield 72, 3) := by decide +kernel
theorem dX1_passBetween_64 : decode cX1_passBetween 64 = .ok (.invokevirtual 54, 3) := by decide +kernel
theorem dX1_passBetween_67 : decode cX1_passBetween 67 = .ok (.aload_n 0, 1) := by decide +kernel
theorem dX1_passBetween_68 : decode cX1_passBetween 68 = .ok (.dload 6, 2) := by decide +kernel
theorem dX1_passBetween_70 : decode cX1_passBetween 70 = .ok (.invokevirtual 75, 3) := by decide +kernel
theorem dX1_passBetween_73 : decode cX1_passBetween 73 = .ok (.dload 6, 2) := by decide +kernel
theorem dX1_passBetween_75 : decode cX1_passBetween 75 = .ok (.dreturn, 1) := by decide +kernel
set_option maxRecDepth 20000 in
theorem ggX1_ageAll_X1_draughtNow : GoodIn wsX1_ageAll wsX1_draughtNow := goodIn_r _ [11, 12, 13, 14, 61, 62, 63, 64, 65] (by decide +kernel) (by decide +kernel)
set_option maxRecDepth 20000 in
theorem gX1_ageAll_X1_draughtNow : GoodIn wsX1_ageAll (wsV RX1 79 RX1 yX1_draughtNow wsX1_draughtNow) := goodIn_app (goodIn_of _ (by decide +kernel)) ggX1_ageAll_X1_draughtNow
set_option maxRecDepth 20000 in
theorem ggX1_ageAll_X0_isEmpty : GoodIn wsX1_ageAll wsX0_isEmpty := goodIn_r _ [19, 20, 66, 67, 68, 69, 70, 71] (by decide +kernel) (by decide +kernel)
set_option maxRecDepth 20000 in
theorem gX1_ageAll_X0_isEmpty : GoodIn wsX1_ageAll (wsV RX1 83 RX0 yX0_isEmpty wsX0_isEmpty) := goodIn_app (goodIn_of _ (by decide +kernel)) ggX1_ageAll_X0_isEmpty
set_option maxRecDepth 20000 in
theorem ggX1_ageAll_X0_spendYear : GoodIn wsX1_ageAll wsX0_spendYear := goodIn_r _ [24, 20, 25, 26, 27, 28, 29, 30, 18, 31, 32, 33, 34, 35, 36, 37, 38, 39, 40, 41, 42, 43, 44, 45, 16, 17, 19, 46, 47, 48, 49, 50, 51, 52, 53, 54, 55, 66, 67, 68, 69, 70, 71] (by decide +kernel) (by decide +kernel)
set_option maxRecDepth 20000 in
theorem gX1_ageAll_X0_spendYear : GoodIn wsX1_ageAll (wsV RX1 86 RX0 yX0_spendYear wsX0_spendYear) := goodIn_app (goodIn_of _ (by decide +kernel)) ggX1_ageAll_X0_spendYear
set_option maxRecDepth 20000 in
theorem ggX1_ageAll_X1_eldest : GoodIn wsX1_ageAll wsX1_eldest := goodIn_r _ [59, 1, 2, 60, 15, 16, 17, 18, 19, 20, 61, 62, 63, 64, 65, 66, 67, 68, 69, 70, 71] (by decide +kernel) (by decide +kernel)
set_option maxRecDepth 20000 in
theorem gX1_ageAll_X1_eldest : GoodIn wsX1_ageAll (wsV RX1 90 RX1 yX1_eldest wsX1_eldest) := goodIn_app (goodIn_of _ (by decide +kernel)) ggX1_ageAll_X1_eldest
theorem dX1_ageAll_0 : decode cX1_ageAll 0 = .ok (.aload_n 0, 1) := by decide +kernel
theorem dX1_ageAll_1 : decode cX1_ageAll 1 = .ok (.invokevirtual 79, 3) := by decide +kernel
theorem dX1_ageAll_4 : decode cX1_ageAll 4 = .ok (.dstore_n 1, 1) := by decide +kernel
theorem dX1_ageAll_5 : decode cX1_ageAll 5 = .ok (.dconst 0, 1) := by decide +kernel
theorem dX1_ageAll_6 : decode cX1_ageAll 6 = .ok (.dstore_n 3, 1) := by decide +kernel
theorem dX1_ageAll_7 : decode cX1_ageAll 7 = .ok (.iconst 0, 1) := by decide +kernel
theorem dX1_ageAll_8 : decode cX1_ageAll 8 = .ok (.istore 5, 2) := by decide +kernel
theorem dX1_ageAll_10 : decode cX1_ageAll 10 = .ok (.iload 5, 2) := by decide +kernel
theorem dX1_ageAll_12 : decode cX1_ageAll 12 = .ok (.aload_n 0, 1) := by decide +kernel
theorem dX1_ageAll_13 : decode cX1_ageAll 13 = .ok (.getfield 18, 3) := by decide +kernel
theorem dX1_ageAll_16 : decode cX1_ageAll 16 = .ok (.if_icmp .ge 36, 3) := by decide +kernel
theorem dX1_ageAll_19 : decode cX1_ageAll 19 = .ok (.aload_n 0, 1) := by decide +kernel
theorem dX1_ageAll_20 : decode cX1_ageAll 20 = .ok (.getfield 11, 3) := by decide +kernel
theorem dX1_ageAll_23 : decode cX1_ageAll 23 = .ok (.iload 5, 2) := by decide +kernel
theorem dX1_ageAll_25 : decode cX1_ageAll 25 = .ok (.aaload, 1) := by decide +kernel
theorem dX1_ageAll_26 : decode cX1_ageAll 26 = .ok (.invokevirtual 83, 3) := by decide +kernel
theorem dX1_ageAll_29 : decode cX1_ageAll 29 = .ok (.ifCond .ne 17, 3) := by decide +kernel
theorem dX1_ageAll_32 : decode cX1_ageAll 32 = .ok (.dload_n 3, 1) := by decide +kernel
theorem dX1_ageAll_33 : decode cX1_ageAll 33 = .ok (.aload_n 0, 1) := by decide +kernel
theorem dX1_ageAll_34 : decode cX1_ageAll 34 = .ok (.getfield 11, 3) := by decide +kernel
theorem dX1_ageAll_37 : decode cX1_ageAll 37 = .ok (.iload 5, 2) := by decide +kernel
theorem dX1_ageAll_39 : decode cX1_ageAll 39 = .ok (.aaload, 1) := by decide +kernel
theorem dX1_ageAll_40 : decode cX1_ageAll 40 = .ok (.dload_n 1, 1) := by decide +kernel
theorem dX1_ageAll_41 : decode cX1_ageAll 41 = .ok (.invokevirtual 86, 3) := by decide +kernel
theorem dX1_ageAll_44 : decode cX1_ageAll 44 = .ok (.dadd, 1) := by decide +kernel
theorem dX1_ageAll_45 : decode cX1_ageAll 45 = .ok (.dstore_n 3, 1) := by decide +kernel
theorem dX1_ageAll_46 : decode cX1_ageAll 46 = .ok (.iinc 5 1, 3) := by decide +kernel
theorem dX1_ageAll_49 : decode cX1_ageAll 49 = .ok (.goto (-39), 3) := by decide +kernel
theorem dX1_ageAll_52 : decode cX1_ageAll 52 = .ok (.aload_n 0, 1) := by decide +kernel
theorem dX1_ageAll_53 : decode cX1_ageAll 53 = .ok (.aload_n 0, 1) := by decide +kernel
theorem dX1_ageAll_54 : decode cX1_ageAll 54 = .ok (.invokevirtual 90, 3) := by decide +kernel
theorem dX1_ageAll_57 : decode cX1_ageAll 57 = .ok (.putfield 25, 3) := by decide +kernel
theorem dX1_ageAll_60 : decode cX1_ageAll 60 = .ok (.aload_n 0, 1) := by decide +kernel
theorem dX1_ageAll_61 : decode cX1_ageAll 61 = .ok (.aload_n 0, 1) := by decide +kernel
theorem dX1_ageAll_62 : decode cX1_ageAll 62 = .ok (.getfield 25, 3) := by decide +kernel
theorem dX1_ageAll_65 : decode cX1_ageAll 65 = .ok (.iconst (-1), 1) := by decide +kernel
theorem dX1_ageAll_66 : decode cX1_ageAll 66 = .ok (.if_icmp .ne 7, 3) := by decide +kernel
theorem dX1_ageAll_69 : decode cX1_ageAll 69 = .ok (.dconst 0, 1) := by decide +kernel
theorem dX1_ageAll_70 : decode cX1_ageAll 70 = .ok (.goto 19, 3) := by decide +kernel
theorem dX1_ageAll_73 : decode cX1_ageAll 73 = .ok (.ldc2_w 94, 3) := by decide +kernel
theorem dX1_ageAll_76 : decode cX1_ageAll 76 = .ok (.aload_n 0, 1) := by decide +kernel
theorem dX1_ageAll_77 : decode cX1_ageAll 77 = .ok (.getfield 11, 3) := by decide +kernel
theorem dX1_ageAll_80 : decode cX1_ageAll 80 = .ok (.aload_n 0, 1) := by decide +kernel
theorem dX1_ageAll_81 : decode cX1_ageAll 81 = .ok (.getfield 25, 3) := by decide +kernel
end
section
theorem dX1_ageAll_84 : decode cX1_ageAll 84 = .ok (.aaload, 1) := by decide +kernel
theorem dX1_ageAll_85 : decode cX1_ageAll 85 = .ok (.getfield 49, 3) := by decide +kernel
theorem dX1_ageAll_88 : decode cX1_ageAll 88 = .ok (.dmul, 1) := by decide +kernel
theorem dX1_ageAll_89 : decode cX1_ageAll 89 = .ok (.putfield 28, 3) := by decide +kernel
theorem dX1_ageAll_92 : decode cX1_ageAll 92 = .ok (.dload_n 3, 1) := by decide +kernel
theorem dX1_ageAll_93 : decode cX1_ageAll 93 = .ok (.dreturn, 1) := by decide +kernel
theorem dX1_draughtNow_0 : decode cX1_draughtNow 0 = .ok (.dconst 1, 1) := by decide +kernel
theorem dX1_draughtNow_1 : decode cX1_draughtNow 1 = .ok (.ldc2_w 96, 3) := by decide +kernel
theorem dX1_draughtNow_4 : decode cX1_draughtNow 4 = .ok (.aload_n 0, 1) := by decide +kernel
theorem dX1_draughtNow_5 : decode cX1_draughtNow 5 = .ok (.getfield 22, 3) := by decide +kernel
theorem dX1_draughtNow_8 : decode cX1_draughtNow 8 = .ok (.bipush 18, 2) := by decide +kernel
theorem dX1_draughtNow_10 : decode cX1_draughtNow 10 = .ok (.isub, 1) := by decide +kernel
theorem dX1_draughtNow_11 : decode cX1_draughtNow 11 = .ok (.i2d, 1) := by decide +kernel
theorem dX1_draughtNow_12 : decode cX1_draughtNow 12 = .ok (.dmul, 1) := by decide +kernel
theorem dX1_draughtNow_13 : decode cX1_draughtNow 13 = .ok (.dadd, 1) := by decide +kernel
theorem dX1_draughtNow_14 : decode cX1_draughtNow 14 = .ok (.dstore_n 1, 1) := by decide +kernel
theorem dX1_draughtNow_15 : decode cX1_draughtNow 15 = .ok (.dload_n 1, 1) := by decide +kernel
theorem dX1_draughtNow_16 : decode cX1_draughtNow 16 = .ok (.ldc2_w 98, 3) := by decide +kernel
theorem dX1_draughtNow_19 : decode cX1_draughtNow 19 = .ok (.dcmp .g, 1) := by decide +kernel
theorem dX1_draughtNow_20 : decode cX1_draughtNow 20 = .ok (.ifCond .ge 9, 3) := by decide +kernel
theorem dX1_draughtNow_23 : decode cX1_draughtNow 23 = .ok (.ldc2_w 98, 3) := by decide +kernel
theorem dX1_draughtNow_26 : decode cX1_draughtNow 26 = .ok (.goto 4, 3) := by decide +kernel
theorem dX1_draughtNow_29 : decode cX1_draughtNow 29 = .ok (.dload_n 1, 1) := by decide +kernel
theorem dX1_draughtNow_30 : decode cX1_draughtNow 30 = .ok (.dreturn, 1) := by decide +kernel
set_option maxRecDepth 20000 in
theorem ggX1_eldest_X0_isEmpty : GoodIn wsX1_eldest wsX0_isEmpty := goodIn_r _ [8, 9, 15, 16, 17, 18, 19, 20] (by decide +kernel) (by decide +kernel)
set_option maxRecDepth 20000 in
theorem gX1_eldest_X0_isEmpty : GoodIn wsX1_eldest (wsV RX1 83 RX0 yX0_isEmpty wsX0_isEmpty) := goodIn_app (goodIn_of _ (by decide +kernel)) ggX1_eldest_X0_isEmpty
theorem dX1_eldest_0 : decode cX1_eldest 0 = .ok (.iconst (-1), 1) := by decide +kernel
theorem dX1_eldest_1 : decode cX1_eldest 1 = .ok (.istore_n 1, 1) := by decide +kernel
theorem dX1_eldest_2 : decode cX1_eldest 2 = .ok (.dconst 0, 1) := by decide +kernel
theorem dX1_eldest_3 : decode cX1_eldest 3 = .ok (.dstore_n 2, 1) := by decide +kernel
theorem dX1_eldest_4 : decode cX1_eldest 4 = .ok (.iconst 0, 1) := by decide +kernel
theorem dX1_eldest_5 : decode cX1_eldest 5 = .ok (.istore 4, 2) := by decide +kernel
theorem dX1_eldest_7 : decode cX1_eldest 7 = .ok (.iload 4, 2) := by decide +kernel
theorem dX1_eldest_9 : decode cX1_eldest 9 = .ok (.aload_n 0, 1) := by decide +kernel
theorem dX1_eldest_10 : decode cX1_eldest 10 = .ok (.getfield 18, 3) := by decide +kernel
theorem dX1_eldest_13 : decode cX1_eldest 13 = .ok (.if_icmp .ge 51, 3) := by decide +kernel
theorem dX1_eldest_16 : decode cX1_eldest 16 = .ok (.aload_n 0, 1) := by decide +kernel
theorem dX1_eldest_17 : decode cX1_eldest 17 = .ok (.getfield 11, 3) := by decide +kernel
theorem dX1_eldest_20 : decode cX1_eldest 20 = .ok (.iload 4, 2) := by decide +kernel
theorem dX1_eldest_22 : decode cX1_eldest 22 = .ok (.aaload, 1) := by decide +kernel
theorem dX1_eldest_23 : decode cX1_eldest 23 = .ok (.invokevirtual 83, 3) := by decide +kernel
theorem dX1_eldest_26 : decode cX1_eldest 26 = .ok (.ifCond .ne 32, 3) := by decide +kernel
theorem dX1_eldest_29 : decode cX1_eldest 29 = .ok (.aload_n 0, 1) := by decide +kernel
theorem dX1_eldest_30 : decode cX1_eldest 30 = .ok (.getfield 11, 3) := by decide +kernel
theorem dX1_eldest_33 : decode cX1_eldest 33 = .ok (.iload 4, 2) := by decide +kernel
theorem dX1_eldest_35 : decode cX1_eldest 35 = .ok (.aaload, 1) := by decide +kernel
theorem dX1_eldest_36 : decode cX1_eldest 36 = .ok (.getfield 66, 3) := by decide +kernel
theorem dX1_eldest_39 : decode cX1_eldest 39 = .ok (.dload_n 2, 1) := by decide +kernel
theorem dX1_eldest_40 : decode cX1_eldest 40 = .ok (.dcmp .l, 1) := by decide +kernel
theorem dX1_eldest_41 : decode cX1_eldest 41 = .ok (.ifCond .lt 17, 3) := by decide +kernel
theorem dX1_eldest_44 : decode cX1_eldest 44 = .ok (.iload 4, 2) := by decide +kernel
theorem dX1_eldest_46 : decode cX1_eldest 46 = .ok (.istore_n 1, 1) := by decide +kernel
theorem dX1_eldest_47 : decode cX1_eldest 47 = .ok (.aload_n 0, 1) := by decide +kernel
theorem dX1_eldest_48 : decode cX1_eldest 48 = .ok (.getfield 11, 3) := by decide +kernel
theorem dX1_eldest_51 : decode cX1_eldest 51 = .ok (.iload 4, 2) := by decide +kernel
theorem dX1_eldest_53 : decode cX1_eldest 53 = .ok (.aaload, 1) := by decide +kernel
theorem dX1_eldest_54 : decode cX1_eldest 54 = .ok (.getfield 66, 3) := by decide +kernel
theorem dX1_eldest_57 : decode cX1_eldest 57 = .ok (.dstore_n 2, 1) := by decide +kernel
theorem dX1_eldest_58 : decode cX1_eldest 58 = .ok (.iinc 4 1, 3) := by decide +kernel
theorem dX1_eldest_61 : decode cX1_eldest 61 = .ok (.goto (-54), 3) := by decide +kernel
theorem dX1_eldest_64 : decode cX1_eldest 64 = .ok (.iload_n 1, 1) := by decide +kernel
theorem dX1_eldest_65 : decode cX1_eldest 65 = .ok (.ireturn, 1) := by decide +kernel
set_option maxRecDepth 20000 in
theorem ggX1_greatestAge_X1_eldest : GoodIn wsX1_greatestAge wsX1_eldest := goodIn_r _ [7, 8, 1, 2, 9, 10, 11, 12, 13, 14, 15, 16, 17, 18, 19, 20, 21, 22, 23, 24, 25] (by decide +kernel) (by decide +kernel)
set_option maxRecDepth 20000 in
theorem gX1_greatestAge_X1_eldest : GoodIn wsX1_greatestAge (wsV RX1 90 RX1 yX1_eldest wsX1_eldest) := goodIn_app (goodIn_of _ (by decide +kernel)) ggX1_greatestAge_X1_eldest
theorem dX1_greatestAge_0 : decode cX1_greatestAge 0 = .ok (.aload_n 0, 1) := by decide +kernel
theorem dX1_greatestAge_1 : decode cX1_greatestAge 1 = .ok (.invokevirtual 90, 3) := by decide +kernel
theorem dX1_greatestAge_4 : decode cX1_greatestAge 4 = .ok (.istore_n 1, 1) := by decide +kernel
theorem dX1_greatestAge_5 : decode cX1_greatestAge 5 = .ok (.iload_n 1, 1) := by decide +kernel
theorem dX1_greatestAge_6 : decode cX1_greatestAge 6 = .ok (.iconst (-1), 1) := by decide +kernel
theorem dX1_greatestAge_7 : decode cX1_greatestAge 7 = .ok (.if_icmp .ne 7, 3) := by decide +kernel
theorem dX1_greatestAge_10 : decode cX1_greatestAge 10 = .ok (.dconst 0, 1) := by decide +kernel
theorem dX1_greatestAge_11 : decode cX1_greatestAge 11 = .ok (.goto 12, 3) := by decide +kernel
theorem dX1_greatestAge_14 : decode cX1_greatestAge 14 = .ok (.aload_n 0, 1) := by decide +kernel
theorem dX1_greatestAge_15 : decode cX1_greatestAge 15 = .ok (.getfield 11, 3) := by decide +kernel
theorem dX1_greatestAge_18 : decode cX1_greatestAge 18 = .ok (.iload_n 1, 1) := by decide +kernel
theorem dX1_greatestAge_19 : decode cX1_greatestAge 19 = .ok (.aaload, 1) := by decide +kernel
theorem dX1_greatestAge_20 : decode cX1_greatestAge 20 = .ok (.getfield 66, 3) := by decide +kernel
theorem dX1_greatestAge_23 : decode cX1_greatestAge 23 = .ok (.dreturn, 1) := by decide +kernel
set_option maxRecDepth 20000 in
theorem ggX1_bottlesReady_X1_eldest : GoodIn wsX1_bottlesReady wsX1_eldest := goodIn_r _ [14, 15, 2, 3, 16, 17, 18, 19, 20, 21, 22, 23, 24, 25, 26, 27, 28, 29, 30, 31, 32] (by decide +kernel) (by decide +kernel)
set_option maxRecDepth 20000 in
theorem gX1_bottlesReady_X1_eldest : GoodIn wsX1_bottlesReady (wsV RX1 90 RX1 yX1_eldest wsX1_eldest) := goodIn_app (goodIn_of _ (by decide +kernel)) ggX1_bottlesReady_X1_eldest
theorem dX1_bottlesReady_0 : decode cX1_bottlesReady 0 = .ok (.aload_n 0, 1) := by decide +kernel
theorem dX1_bottlesReady_1 : decode cX1_bottlesReady 1 = .ok (.invokevirtual 90, 3) := by decide +kernel
theorem dX1_bottlesReady_4 : decode cX1_bottlesReady 4 = .ok (.istore_n 1, 1) := by decide +kernel
theorem dX1_bottlesReady_5 : decode cX1_bottlesReady 5 = .ok (.iload_n 1, 1) := by decide +kernel
theorem dX1_bottlesReady_6 : decode cX1_bottlesReady 6 = .ok (.iconst (-1), 1) := by decide +kernel
theorem dX1_bottlesReady_7 : decode cX1_bottlesReady 7 = .ok (.if_icmp .eq 11, 3) := by decide +kernel
theorem dX1_bottlesReady_10 : decode cX1_bottlesReady 10 = .ok (.iload_n 1, 1) := by decide +kernel
theorem dX1_bottlesReady_11 : decode cX1_bottlesReady 11 = .ok (.aload_n 0, 1) := by decide +kernel
theorem dX1_bottlesReady_12 : decode cX1_bottlesReady 12 = .ok (.getfield 25, 3) := by decide +kernel
theorem dX1_bottlesReady_15 : decode cX1_bottlesReady 15 = .ok (.if_icmp .eq 5, 3) := by decide +kernel
theorem dX1_bottlesReady_18 : decode cX1_bottlesReady 18 = .ok (.iconst 0, 1) := by decide +kernel
theorem dX1_bottlesReady_19 : decode cX1_bottlesReady 19 = .ok (.ireturn, 1) := by decide +kernel
theorem dX1_bottlesReady_20 : decode cX1_bottlesReady 20 = .ok (.aload_n 0, 1) := by decide +kernel
theorem dX1_bottlesReady_21 : decode cX1_bottlesReady 21 = .ok (.getfield 11, 3) := by decide +kernel
theorem dX1_bottlesReady_24 : decode cX1_bottlesReady 24 = .ok (.iload_n 1, 1) := by decide +kernel
theorem dX1_bottlesReady_25 : decode cX1_bottlesReady 25 = .ok (.aaload, 1) := by decide +kernel
theorem dX1_bottlesReady_26 : decode cX1_bottlesReady 26 = .ok (.astore_n 2, 1) := by decide +kernel
theorem dX1_bottlesReady_27 : decode cX1_bottlesReady 27 = .ok (.aload_n 2, 1) := by decide +kernel
theorem dX1_bottlesReady_28 : decode cX1_bottlesReady 28 = .ok (.getfield 66, 3) := by decide +kernel
theorem dX1_bottlesReady_31 : decode cX1_bottlesReady 31 = .ok (.ldc2_w 100, 3) := by decide +kernel
theorem dX1_bottlesReady_34 : decode cX1_bottlesReady 34 = .ok (.dcmp .g, 1) := by decide +kernel
theorem dX1_bottlesReady_35 : decode cX1_bottlesReady 35 = .ok (.ifCond .lt 14, 3) := by decide +kernel
theorem dX1_bottlesReady_38 : decode cX1_bottlesReady 38 = .ok (.aload_n 2, 1) := by decide +kernel
theorem dX1_bottlesReady_39 : decode cX1_bottlesReady 39 = .ok (.getfield 72, 3) := by decide +kernel
theorem dX1_bottlesReady_42 : decode cX1_bottlesReady 42 = .ok (.ldc2_w 102, 3) := by decide +kernel
theorem dX1_bottlesReady_45 : decode cX1_bottlesReady 45 = .ok (.dcmp .g, 1) := by decide +kernel
theorem dX1_bottlesReady_46 : decode cX1_bottlesReady 46 = .ok (.ifCond .ge 5, 3) := by decide +kernel
theorem dX1_bottlesReady_49 : decode cX1_bottlesReady 49 = .ok (.iconst 0, 1) := by decide +kernel
theorem dX1_bottlesReady_50 : decode cX1_bottlesReady 50 = .ok (.ireturn, 1) := by decide +kernel
theorem dX1_bottlesReady_51 : decode cX1_bottlesReady 51 = .ok (.aload_n 0, 1) := by decide +kernel
theorem dX1_bottlesReady_52 : decode cX1_bottlesReady 52 = .ok (.getfield 28, 3) := by decide +kernel
theorem dX1_bottlesReady_55 : decode cX1_bottlesReady 55 = .ok (.aload_n 2, 1) := by decide +kernel
theorem dX1_bottlesReady_56 : decode cX1_bottlesReady 56 = .ok (.getfield 49, 3) := by decide +kernel
theorem dX1_bottlesReady_59 : decode cX1_bottlesReady 59 = .ok (.dcmp .g, 1) := by decide +kernel
theorem dX1_bottlesReady_60 : decode cX1_bottlesReady 60 = .ok (.ifCond .ge 10, 3) := by decide +kernel
theorem dX1_bottlesReady_63 : decode cX1_bottlesReady 63 = .ok (.aload_n 0, 1) := by decide +kernel
theorem dX1_bottlesReady_64 : decode cX1_bottlesReady 64 = .ok (.getfield 28, 3) := by decide +kernel
theorem dX1_bottlesReady_67 : decode cX1_bottlesReady 67 = .ok (.goto 7, 3) := by decide +kernel
theorem dX1_bottlesReady_70 : decode cX1_bottlesReady 70 = .ok (.aload_n 2, 1) := by decide +kernel
theorem dX1_bottlesReady_71 : decode cX1_bottlesReady 71 = .ok (.getfield 49, 3) := by decide +kernel
theorem dX1_bottlesReady_74 : decode cX1_bottlesReady 74 = .ok (.dstore_n 3, 1) := by decide +kernel
theorem dX1_bottlesReady_75 : decode cX1_bottlesReady 75 = .ok (.dload_n 3, 1) := by decide +kernel
theorem dX1_bottlesReady_76 : decode cX1_bottlesReady 76 = .ok (.dconst 0, 1) := by decide +kernel
theorem dX1_bottlesReady_77 : decode cX1_bottlesReady 77 = .ok (.dcmp .l, 1) := by decide +kernel
theorem dX1_bottlesReady_78 : decode cX1_bottlesReady 78 = .ok (.ifCond .le 12, 3) := by decide +kernel
theorem dX1_bottlesReady_81 : decode cX1_bottlesReady 81 = .ok (.dload_n 3, 1) := by decide +kernel
theorem dX1_bottlesReady_82 : decode cX1_bottlesReady 82 = .ok (.ldc2_w 104, 3) := by decide +kernel
theorem dX1_bottlesReady_85 : decode cX1_bottlesReady 85 = .ok (.ddiv, 1) := by decide +kernel
theorem dX1_bottlesReady_86 : decode cX1_bottlesReady 86 = .ok (.d2i, 1) := by decide +kernel
theorem dX1_bottlesReady_87 : decode cX1_bottlesReady 87 = .ok (.goto 4, 3) := by decide +kernel
theorem dX1_bottlesReady_90 : decode cX1_bottlesReady 90 = .ok (.iconst 0, 1) := by decide +kernel
theorem dX1_bottlesReady_91 : decode cX1_bottlesReady 91 = .ok (.ireturn, 1) := by decide +kernel
set_option maxRecDepth 20000 in
theorem ggX1_takeBottles_X0_takeOut : GoodIn wsX1_takeBottles wsX0_takeOut := goodIn_r _ [9, 10, 11, 12, 13, 8, 14, 15, 16, 17, 23, 24, 25, 26, 27, 28] (by decide +kernel) (by decide +kernel)
set_option maxRecDepth 20000 in
theorem gX1_takeBottles_X0_takeOut : GoodIn wsX1_takeBottles (wsV RX1 75 RX0 yX0_takeOut wsX0_takeOut) := goodIn_app (goodIn_of _ (by decide +kernel)) ggX1_takeBottles_X0_takeOut
theorem dX1_takeBottles_0 : decode cX1_takeBottles 0 = .ok (.aload_n 0, 1) := by decide +kernel
theorem dX1_takeBottles_1 : decode cX1_takeBottles 1 = .ok (.getfield 25, 3) := by decide +kernel
theorem dX1_takeBottles_4 : decode cX1_takeBottles 4 = .ok (.iconst (-1), 1) := by decide +kernel
theorem dX1_takeBottles_5 : decode cX1_takeBottles 5 = .ok (.if_icmp .ne 4, 3) := by decide +kernel
theorem dX1_takeBottles_8 : decode cX1_takeBottles 8 = .ok (.return_, 1) := by decide +kernel
theorem dX1_takeBottles_9 : decode cX1_takeBottles 9 = .ok (.iload_n 1, 1) := by decide +kernel
theorem dX1_takeBottles_10 : decode cX1_takeBottles 10 = .ok (.i2d, 1) := by decide +kernel
theorem dX1_takeBottles_11 : decode cX1_takeBottles 11 = .ok (.ldc2_w 104, 3) := by decide +kernel
theorem dX1_takeBottles_14 : decode cX1_takeBottles 14 = .ok (.dmul, 1) := by decide +kernel
theorem dX1_takeBottles_15 : decode cX1_takeBottles 15 = .ok (.dstore_n 2, 1) := by decide +kernel
theorem dX1_takeBottles_16 : decode cX1_takeBottles 16 = .ok (.aload_n 0, 1) := by decide +kernel
theorem dX1_takeBottles_17 : decode cX1_takeBottles 17 = .ok (.aload_n 0, 1) := by decide +kernel
theorem dX1_takeBottles_18 : decode cX1_takeBottles 18 = .ok (.getfield 28, 3) := by decide +kernel
theorem dX1_takeBottles_21 : decode cX1_takeBottles 21 = .ok (.dload_n 2, 1) := by decide +kernel
theorem dX1_takeBottles_22 : decode cX1_takeBottles 22 = .ok (.dsub, 1) := by decide +kernel
theorem dX1_takeBottles_23 : decode cX1_takeBottles 23 = .ok (.putfield 28, 3) := by decide +kernel
theorem dX1_takeBottles_26 : decode cX1_takeBottles 26 = .ok (.aload_n 0, 1) := by decide +kernel
theorem dX1_takeBottles_27 : decode cX1_takeBottles 27 = .ok (.getfield 11, 3) := by decide +kernel
theorem dX1_takeBottles_30 : decode cX1_takeBottles 30 = .ok (.aload_n 0, 1) := by decide +kernel
theorem dX1_takeBottles_31 : decode cX1_takeBottles 31 = .ok (.getfield 25, 3) := by decide +kernel
theorem dX1_takeBottles_34 : decode cX1_takeBottles 34 = .ok (.aaload, 1) := by decide +kernel
theorem dX1_takeBottles_35 : decode cX1_takeBottles 35 = .ok (.dload_n 2, 1) := by decide +kernel
theorem dX1_takeBottles_36 : decode cX1_takeBottles 36 = .ok (.invokevirtual 75, 3) := by decide +kernel
theorem dX1_takeBottles_39 : decode cX1_takeBottles 39 = .ok (.return_, 1) := by decide +kernel
theorem dX1_allLitres_0 : decode cX1_allLitres 0 = .ok (.dconst 0, 1) := by decide +kernel
theorem dX1_allLitres_1 : decode cX1_allLitres 1 = .ok (.dstore_n 1, 1) := by decide +kernel
theorem dX1_allLitres_2 : decode cX1_allLitres 2 = .ok (.iconst 0, 1) := by decide +kernel
theorem dX1_allLitres_3 : decode cX1_allLitres 3 = .ok (.istore_n 3, 1) := by decide +kernel
theorem dX1_allLitres_4 : decode cX1_allLitres 4 = .ok (.iload_n 3, 1) := by decide +kernel
theorem dX1_allLitres_5 : decode cX1_allLitres 5 = .ok (.aload_n 0, 1) := by decide +kernel
theorem dX1_allLitres_6 : decode cX1_allLitres 6 = .ok (.getfield 18, 3) := by decide +kernel
theorem dX1_allLitres_9 : decode cX1_allLitres 9 = .ok (.if_icmp .ge 21, 3) := by decide +kernel
theorem dX1_allLitres_12 : decode cX1_allLitres 12 = .ok (.dload_n 1, 1) := by decide +kernel
theorem dX1_allLitres_13 : decode cX1_allLitres 13 = .ok (.aload_n 0, 1) := by decide +kernel
theorem dX1_allLitres_14 : decode cX1_allLitres 14 = .ok (.getfield 11, 3) := by decide +kernel
theorem dX1_allLitres_17 : decode cX1_allLitres 17 = .ok (.iload_n 3, 1) := by decide +kernel
theorem dX1_allLitres_18 : decode cX1_allLitres 18 = .ok (.aaload, 1) := by decide +kernel
theorem dX1_allLitres_19 : decode cX1_allLitres 19 = .ok (.getfield 49, 3) := by decide +kernel
theorem dX1_allLitres_22 : decode cX1_allLitres 22 = .ok (.dadd, 1) := by decide +kernel
theorem dX1_allLitres_23 : decode cX1_allLitres 23 = .ok (.dstore_n 1, 1) := by decide +kernel
theorem dX1_allLitres_24 : decode cX1_allLitres 24 = .ok (.iinc 3 1, 3) := by decide +kernel
theorem dX1_allLitres_27 : decode cX1_allLitres 27 = .ok (.goto (-23), 3) := by decide +kernel
theorem dX1_allLitres_30 : decode cX1_allLitres 30 = .ok (.dload_n 1, 1) := by decide +kernel
theorem dX1_allLitres_31 : decode cX1_allLitres 31 = .ok (.dreturn, 1) := by decide +kernel
theorem dX1_litresTimesAge_0 : decode cX1_litresTimesAge 0 = .ok (.dconst 0, 1) := by decide +kernel
theorem dX1_litresTimesAge_1 : decode cX1_litresTimesAge 1 = .ok (.dstore_n 1, 1) := by decide +kernel
theorem dX1_litresTimesAge_2 : decode cX1_litresTimesAge 2 = .ok (.iconst 0, 1) := by decide +kernel
theorem dX1_litresTimesAge_3 : decode cX1_litresTimesAge 3 = .ok (.istore_n 3, 1) := by decide +kernel
theorem dX1_litresTimesAge_4 : decode cX1_litresTimesAge 4 = .ok (.iload_n 3, 1) := by decide +kernel
theorem dX1_litresTimesAge_5 : decode cX1_litresTimesAge 5 = .ok (.aload_n 0, 1) := by decide +kernel
theorem dX1_litresTimesAge_6 : decode cX1_litresTimesAge 6 = .ok (.getfield 18, 3) := by decide +kernel
theorem dX1_litresTimesAge_9 : decode cX1_litresTimesAge 9 = .ok (.if_icmp .ge 31, 3) := by decide +kernel
theorem dX1_litresTimesAge_12 : decode cX1_litresTimesAge 12 = .ok (.dload_n 1, 1) := by decide +kernel
theorem dX1_litresTimesAge_13 : decode cX1_litresTimesAge 13 = .ok (.aload_n 0, 1) := by decide +kernel
theorem dX1_litresTimesAge_14 : decode cX1_litresTimesAge 14 = .ok (.getfield 11, 3) := by decide +kernel
theorem dX1_litresTimesAge_17 : decode cX1_litresTimesAge 17 = .ok (.iload_n 3, 1) := by decide +kernel
theorem dX1_litresTimesAge_18 : decode cX1_litresTimesAge 18 = .ok (.aaload, 1) := by decide +kernel
theorem dX1_litresTimesAge_19 : decode cX1_litresTimesAge 19 = .ok (.getfield 49, 3) := by decide +kernel
theorem dX1_litresTimesAge_22 : decode cX1_litresTimesAge 22 = .ok (.aload_n 0, 1) := by decide +kernel
theorem dX1_litresTimesAge_23 : decode cX1_litresTimesAge 23 = .ok (.getfield 11, 3) := by decide +kernel
theorem dX1_litresTimesAge_26 : decode cX1_litresTimesAge 26 = .ok (.iload_n 3, 1) := by decide +kernel
theorem dX1_litresTimesAge_27 : decode cX1_litresTimesAge 27 = .ok (.aaload, 1) := by decide +kernel
theorem dX1_litresTimesAge_28 : decode cX1_litresTimesAge 28 = .ok (.getfield 66, 3) := by decide +kernel
theorem dX1_litresTimesAge_31 : decode cX1_litresTimesAge 31 = .ok (.dmul, 1) := by decide +kernel
theorem dX1_litresTimesAge_32 : decode cX1_litresTimesAge 32 = .ok (.dadd, 1) := by decide +kernel
theorem dX1_litresTimesAge_33 : decode cX1_litresTimesAge 33 = .ok (.dstore_n 1, 1) := by decide +kernel
theorem dX1_litresTimesAge_34 : decode cX1_litresTimesAge 34 = .ok (.iinc 3 1, 3) := by decide +kernel
theorem dX1_litresTimesAge_37 : decode cX1_litresTimesAge 37 = .ok (.goto (-33), 3) := by decide +kernel
theorem dX1_litresTimesAge_40 : decode cX1_litresTimesAge 40 = .ok (.dload_n 1, 1) := by decide +kernel
theorem dX1_litresTimesAge_41 : decode cX1_litresTimesAge 41 = .ok (.dreturn, 1) := by decide +kernel
theorem dX1_litresTimesSugar_0 : decode cX1_litresTimesSugar 0 = .ok (.dconst 0, 1) := by decide +kernel
theorem dX1_litresTimesSugar_1 : decode cX1_litresTimesSugar 1 = .ok (.dstore_n 1, 1) := by decide +kernel
theorem dX1_litresTimesSugar_2 : decode cX1_litresTimesSugar 2 = .ok (.iconst 0, 1) := by decide +kernel
theorem dX1_litresTimesSugar_3 : decode cX1_litresTimesSugar 3 = .ok (.istore_n 3, 1) := by decide +kernel
theorem dX1_litresTimesSugar_4 : decode cX1_litresTimesSugar 4 = .ok (.iload_n 3, 1) := by decide +kernel
theorem dX1_litresTimesSugar_5 : decode cX1_litresTimesSugar 5 = .ok (.aload_n 0, 1) := by decide +kernel
theorem dX1_litresTimesSugar_6 : decode cX1_litresTimesSugar 6 = .ok (.getfield 18, 3) := by decide +kernel
theorem dX1_litresTimesSugar_9 : decode cX1_litresTimesSugar 9 = .ok (.if_icmp .ge 31, 3) := by decide +kernel
theorem dX1_litresTimesSugar_12 : decode cX1_litresTimesSugar 12 = .ok (.dload_n 1, 1) := by decide +kernel
theorem dX1_litresTimesSugar_13 : decode cX1_litresTimesSugar 13 = .ok (.aload_n 0, 1) := by decide +kernel
theorem dX1_litresTimesSugar_14 : decode cX1_litresTimesSugar 14 = .ok (.getfield 11, 3) := by decide +kernel
theorem dX1_litresTimesSugar_17 : decode cX1_litresTimesSugar 17 = .ok (.iload_n 3, 1) := by decide +kernel
theorem dX1_litresTimesSugar_18 : decode cX1_litresTimesSugar 18 = .ok (.aaload, 1) := by decide +kernel
theorem dX1_litresTimesSugar_19 : decode cX1_litresTimesSugar 19 = .ok (.getfield 49, 3) := by decide +kernel
theorem dX1_litresTimesSugar_22 : decode cX1_litresTimesSugar 22 = .ok (.aload_n 0, 1) := by decide +kernel
theorem dX1_litresTimesSugar_23 : decode cX1_litresTimesSugar 23 = .ok (.getfield 11, 3) := by decide +kernel
theorem dX1_litresTimesSugar_26 : decode cX1_litresTimesSugar 26 = .ok (.iload_n 3, 1) := by decide +kernel
theorem dX1_litresTimesSugar_27 : decode cX1_litresTimesSugar 27 = .ok (.aaload, 1) := by decide +kernel
theorem dX1_litresTimesSugar_28 : decode cX1_litresTimesSugar 28 = .ok (.getfield 72, 3) := by decide +kernel
theorem dX1_litresTimesSugar_31 : decode cX1_litresTimesSugar 31 = .ok (.dmul, 1) := by decide +kernel
theorem dX1_litresTimesSugar_32 : decode cX1_litresTimesSugar 32 = .ok (.dadd, 1) := by decide +kernel
theorem dX1_litresTimesSugar_33 : decode cX1_litresTimesSugar 33 = .ok (.dstore_n 1, 1) := by decide +kernel
theorem dX1_litresTimesSugar_34 : decode cX1_litresTimesSugar 34 = .ok (.iinc 3 1, 3) := by decide +kernel
theorem dX1_litresTimesSugar_37 : decode cX1_litresTimesSugar 37 = .ok (.goto (-33), 3) := by decide +kernel
theorem dX1_litresTimesSugar_40 : decode cX1_litresTimesSugar 40 = .ok (.dload_n 1, 1) := by decide +kernel
theorem dX1_litresTimesSugar_41 : decode cX1_litresTimesSugar 41 = .ok (.dreturn, 1) := by decide +kernel
set_option maxRecDepth 20000 in
theorem ggX2_init_X1_init : GoodIn wsX2_init wsX1_init := goodIn_r _ [14, 15, 2, 3, 16, 17, 18, 19, 20, 21, 22, 23, 24, 25, 26, 27, 28, 29, 30, 31, 36, 37, 38, 39, 40, 41] (by decide +kernel) (by decide +kernel)
set_option maxRecDepth 20000 in
theorem gX2_init_X1_init : GoodIn wsX2_init (wsX1_init) := ggX2_init_X1_init
theorem dX2_init_0 : decode cX2_init 0 = .ok (.aload_n 0, 1) := by decide +kernel
theorem dX2_init_1 : decode cX2_init 1 = .ok (.invokespecial 1, 3) := by decide +kernel
theorem dX2_init_4 : decode cX2_init 4 = .ok (.aload_n 0, 1) := by decide +kernel
theorem dX2_init_5 : decode cX2_init 5 = .ok (.new 7, 3) := by decide +kernel
theorem dX2_init_8 : decode cX2_init 8 = .ok (.dup, 1) := by decide +kernel
theorem dX2_init_9 : decode cX2_init 9 = .ok (.invokespecial 9, 3) := by decide +kernel
theorem dX2_init_12 : decode cX2_init 12 = .ok (.putfield 10, 3) := by decide +kernel
theorem dX2_init_15 : decode cX2_init 15 = .ok (.aload_n 0, 1) := by decide +kernel
theorem dX2_init_16 : decode cX2_init 16 = .ok (.new 7, 3) := by decide +kernel
theorem dX2_init_19 : decode cX2_init 19 = .ok (.dup, 1) := by decide +kernel
theorem dX2_init_20 : decode cX2_init 20 = .ok (.invokespecial 9, 3) := by decide +kernel
theorem dX2_init_23 : decode cX2_init 23 = .ok (.putfield 16, 3) := by decide +kernel
theorem dX2_init_26 : decode cX2_init 26 = .ok (.aload_n 0, 1) := by decide +kernel
theorem dX2_init_27 : decode cX2_init 27 = .ok (.iconst 3, 1) := by decide +kernel
theorem dX2_init_28 : decode cX2_init 28 = .ok (.newarray .int, 2) := by decide +kernel
theorem dX2_init_30 : decode cX2_init 30 = .ok (.putfield 19, 3) := by decide +kernel
theorem dX2_init_33 : decode cX2_init 33 = .ok (.aload_n 0, 1) := by decide +kernel
theorem dX2_init_34 : decode cX2_init 34 = .ok (.iconst 0, 1) := by decide +kernel
theorem dX2_init_35 : decode cX2_init 35 = .ok (.putfield 23, 3) := by decide +kernel
theorem dX2_init_38 : decode cX2_init 38 = .ok (.return_, 1) := by decide +kernel
set_option maxRecDepth 20000 in
theorem ggX2_add_X1_largestNext : GoodIn wsX2_add wsX1_largestNext := goodIn_r _ [10, 11, 12, 13, 37, 38, 39, 40, 41, 42, 43, 44, 45, 46, 47] (by decide +kernel) (by decide +kernel)
set_option maxRecDepth 20000 in
theorem gX2_add_X1_largestNext : GoodIn wsX2_add (wsV RX2 34 RX1 yX1_largestNext wsX1_largestNext) := goodIn_app (goodIn_of _ (by decide +kernel)) ggX2_add_X1_largestNext
set_option maxRecDepth 20000 in
theorem ggX2_add_X1_isComplete : GoodIn wsX2_add wsX1_isComplete := goodIn_r _ [17, 11, 12, 37, 38, 39, 40, 41] (by decide +kernel) (by decide +kernel)
set_option maxRecDepth 20000 in
theorem gX2_add_X1_isComplete : GoodIn wsX2_add (wsV RX2 40 RX1 yX1_isComplete wsX1_isComplete) := goodIn_app (goodIn_of _ (by decide +kernel)) ggX2_add_X1_isComplete
set_option maxRecDepth 20000 in
theorem ggX2_add_X1_putBehind : GoodIn wsX2_add wsX1_putBehind := goodIn_r _ [21, 12, 11, 22, 13, 23, 15, 16, 9, 17, 24, 25, 26, 27, 28, 29, 30, 31, 32, 37, 38, 39, 40, 41, 42, 43, 44, 45, 46, 47] (by decide +kernel) (by decide +kernel)
set_option maxRecDepth 20000 in
theorem gX2_add_X1_putBehind : GoodIn wsX2_add (wsV RX2 49 RX1 yX1_putBehind wsX1_putBehind) := goodIn_app (goodIn_of _ (by decide +kernel)) ggX2_add_X1_putBehind
theorem dX2_add_0 : decode cX2_add 0 = .ok (.iload_n 1, 1) := by decide +kernel
theorem dX2_add_1 : decode cX2_add 1 = .ok (.ifCond .lt 8, 3) := by decide +kernel
theorem dX2_add_4 : decode cX2_add 4 = .ok (.iload_n 1, 1) := by decide +kernel
theorem dX2_add_5 : decode cX2_add 5 = .ok (.iconst 4, 1) := by decide +kernel
theorem dX2_add_6 : decode cX2_add 6 = .ok (.if_icmp .lt 13, 3) := by decide +kernel
theorem dX2_add_9 : decode cX2_add 9 = .ok (.new 27, 3) := by decide +kernel
theorem dX2_add_12 : decode cX2_add 12 = .ok (.dup, 1) := by decide +kernel
theorem dX2_add_13 : decode cX2_add 13 = .ok (.ldc 29, 2) := by decide +kernel
theorem dX2_add_15 : decode cX2_add 15 = .ok (.invokespecial 31, 3) := by decide +kernel
theorem dX2_add_18 : decode cX2_add 18 = .ok (.athrow, 1) := by decide +kernel
theorem dX2_add_19 : decode cX2_add 19 = .ok (.iload_n 2, 1) := by decide +kernel
theorem dX2_add_20 : decode cX2_add 20 = .ok (.bipush 10, 2) := by decide +kernel
theorem dX2_add_22 : decode cX2_add 22 = .ok (.if_icmp .lt 14, 3) := by decide +kernel
theorem dX2_add_25 : decode cX2_add 25 = .ok (.iload_n 2, 1) := by decide +kernel
theorem dX2_add_26 : decode cX2_add 26 = .ok (.aload_n 0, 1) := by decide +kernel
theorem dX2_add_27 : decode cX2_add 27 = .ok (.getfield 10, 3) := by decide +kernel
theorem dX2_add_30 : decode cX2_add 30 = .ok (.invokevirtual 34, 3) := by decide +kernel
theorem dX2_add_33 : decode cX2_add 33 = .ok (.if_icmp .le 13, 3) := by decide +kernel
theorem dX2_add_36 : decode cX2_add 36 = .ok (.new 27, 3) := by decide +kernel
theorem dX2_add_39 : decode cX2_add 39 = .ok (.dup, 1) := by decide +kernel
theorem dX2_add_40 : decode cX2_add 40 = .ok (.ldc 38, 2) := by decide +kernel
theorem dX2_add_42 : decode cX2_add 42 = .ok (.invokespecial 31, 3) := by decide +kernel
theorem dX2_add_45 : decode cX2_add 45 = .ok (.athrow, 1) := by decide +kernel
theorem dX2_add_46 : decode cX2_add 46 = .ok (.aload_n 0, 1) := by decide +kernel
theorem dX2_add_47 : decode cX2_add 47 = .ok (.getfield 10, 3) := by decide +kernel
theorem dX2_add_50 : decode cX2_add 50 = .ok (.invokevirtual 40, 3) := by decide +kernel
theorem dX2_add_53 : decode cX2_add 53 = .ok (.ifCond .eq 13, 3) := by decide +kernel
theorem dX2_add_56 : decode cX2_add 56 = .ok (.new 44, 3) := by decide +kernel
theorem dX2_add_59 : decode cX2_add 59 = .ok (.dup, 1) := by decide +kernel
theorem dX2_add_60 : decode cX2_add 60 = .ok (.ldc 46, 2) := by decide +kernel
theorem dX2_add_62 : decode cX2_add 62 = .ok (.invokespecial 48, 3) := by decide +kernel
theorem dX2_add_65 : decode cX2_add 65 = .ok (.athrow, 1) := by decide +kernel
theorem dX2_add_66 : decode cX2_add 66 = .ok (.aload_n 0, 1) := by decide +kernel
theorem dX2_add_67 : decode cX2_add 67 = .ok (.getfield 10, 3) := by decide +kernel
theorem dX2_add_70 : decode cX2_add 70 = .ok (.iload_n 1, 1) := by decide +kernel
theorem dX2_add_71 : decode cX2_add 71 = .ok (.iload_n 2, 1) := by decide +kernel
theorem dX2_add_72 : decode cX2_add 72 = .ok (.invokevirtual 49, 3) := by decide +kernel
theorem dX2_add_75 : decode cX2_add 75 = .ok (.ireturn, 1) := by decide +kernel
set_option maxRecDepth 20000 in
theorem ggX2_fill_X1_pourMust : GoodIn wsX2_fill wsX1_pourMust := goodIn_r _ [8, 9, 10, 11, 12, 13, 14, 15, 16, 17, 18, 19, 20, 21, 22, 23, 24, 25, 30, 31, 32, 33, 34, 35, 36, 37, 38, 39, 40] (by decide +kernel) (by decide +kernel)
set_option maxRecDepth 20000 in
theorem gX2_fill_X1_pourMust : GoodIn wsX2_fill (wsV RX2 55 RX1 yX1_pourMust wsX1_pourMust) := goodIn_app (goodIn_of _ (by decide +kernel)) ggX2_fill_X1_pourMust
theorem dX2_fill_0 : decode cX2_fill 0 = .ok (.iload_n 1, 1) := by decide +kernel
theorem dX2_fill_1 : decode cX2_fill 1 = .ok (.iconst 1, 1) := by decide +kernel
theorem dX2_fill_2 : decode cX2_fill 2 = .ok (.if_icmp .lt 9, 3) := by decide +kernel
theorem dX2_fill_5 : decode cX2_fill 5 = .ok (.iload_n 1, 1) := by decide +kernel
theorem dX2_fill_6 : decode cX2_fill 6 = .ok (.bipush 100, 2) := by decide +kernel
theorem dX2_fill_8 : decode cX2_fill 8 = .ok (.if_icmp .le 13, 3) := by decide +kernel
theorem dX2_fill_11 : decode cX2_fill 11 = .ok (.new 27, 3) := by decide +kernel
theorem dX2_fill_14 : decode cX2_fill 14 = .ok (.dup, 1) := by decide +kernel
theorem dX2_fill_15 : decode cX2_fill 15 = .ok (.ldc 53, 2) := by decide +kernel
theorem dX2_fill_17 : decode cX2_fill 17 = .ok (.invokespecial 31, 3) := by decide +kernel
theorem dX2_fill_20 : decode cX2_fill 20 = .ok (.athrow, 1) := by decide +kernel
theorem dX2_fill_21 : decode cX2_fill 21 = .ok (.aload_n 0, 1) := by decide +kernel
theorem dX2_fill_22 : decode cX2_fill 22 = .ok (.getfield 10, 3) := by decide +kernel
theorem dX2_fill_25 : decode cX2_fill 25 = .ok (.iload_n 1, 1) := by decide +kernel
theorem dX2_fill_26 : decode cX2_fill 26 = .ok (.invokevirtual 55, 3) := by decide +kernel
theorem dX2_fill_29 : decode cX2_fill 29 = .ok (.dreturn, 1) := by decide +kernel
set_option maxRecDepth 20000 in
theorem ggX2_topUp_X1_passDown : GoodIn wsX2_topUp wsX1_passDown := goodIn_r _ [6, 7, 8, 9, 10, 5, 11, 12, 13, 14, 15, 16, 17, 18, 19, 20, 21, 22, 23, 24, 25, 26, 27, 28, 29, 30, 31, 32, 33, 34, 35, 36, 37, 38, 43, 44, 45, 46, 47, 48, 49, 50, 51, 52, 53] (by decide +kernel) (by decide +kernel)
set_option maxRecDepth 20000 in
theorem gX2_topUp_X1_passDown : GoodIn wsX2_topUp (wsV RX2 59 RX1 yX1_passDown wsX1_passDown) := goodIn_app (goodIn_of _ (by decide +kernel)) ggX2_topUp_X1_passDown
theorem dX2_topUp_0 : decode cX2_topUp 0 = .ok (.aload_n 0, 1) := by decide +kernel
theorem dX2_topUp_1 : decode cX2_topUp 1 = .ok (.getfield 10, 3) := by decide +kernel
theorem dX2_topUp_4 : decode cX2_topUp 4 = .ok (.invokevirtual 59, 3) := by decide +kernel
theorem dX2_topUp_7 : decode cX2_topUp 7 = .ok (.dreturn, 1) := by decide +kernel
set_option maxRecDepth 20000 in
theorem ggX2_year_X1_ageAll : GoodIn wsX2_year wsX1_ageAll := goodIn_r _ [7, 8, 9, 10, 11, 12, 13, 14, 15, 16, 6, 17, 18, 19, 20, 21, 22, 23, 24, 25, 26, 27, 28, 29, 30, 31, 32, 33, 34, 35, 36, 37, 38, 39, 40, 41, 42, 43, 44, 45, 46, 47, 48, 49, 50, 51, 52, 53, 54, 55, 56, 57, 58, 59, 60, 61, 62, 63, 64, 65, 66, 71, 72, 73, 74, 75, 76, 77, 78, 79, 80, 81] (by decide +kernel) (by decide +kernel)
set_option maxRecDepth 20000 in
theorem gX2_year_X1_ageAll : GoodIn wsX2_year (wsV RX2 63 RX1 yX1_ageAll wsX1_ageAll) := goodIn_app (goodIn_of _ (by decide +kernel)) ggX2_year_X1_ageAll
theorem dX2_year_0 : decode cX2_year 0 = .ok (.aload_n 0, 1) := by decide +kernel
theorem dX2_year_1 : decode cX2_year 1 = .ok (.dup, 1) := by decide +kernel
theorem dX2_year_2 : decode cX2_year 2 = .ok (.getfield 23, 3) := by decide +kernel
theorem dX2_year_5 : decode cX2_year 5 = .ok (.iconst 1, 1) := by decide +kernel
theorem dX2_year_6 : decode cX2_year 6 = .ok (.iadd, 1) := by decide +kernel
theorem dX2_year_7 : decode cX2_year 7 = .ok (.putfield 23, 3) := by decide +kernel
theorem dX2_year_10 : decode cX2_year 10 = .ok (.aload_n 0, 1) := by decide +kernel
theorem dX2_year_11 : decode cX2_year 11 = .ok (.getfield 10, 3) := by decide +kernel
theorem dX2_year_14 : decode cX2_year 14 = .ok (.invokevirtual 63, 3) := by decide +kernel
theorem dX2_year_17 : decode cX2_year 17 = .ok (.dreturn, 1) := by decide +kernel
set_option maxRecDepth 20000 in
theorem ggX2_draw_X1_bottlesReady : GoodIn wsX2_draw wsX1_bottlesReady := goodIn_r _ [9, 10, 11, 12, 13, 14, 15, 16, 17, 18, 19, 20, 21, 8, 22, 23, 24, 25, 26, 27, 28, 29, 59, 60, 61, 62, 63, 64, 65, 66, 67, 68, 69] (by decide +kernel) (by decide +kernel)
set_option maxRecDepth 20000 in
theorem gX2_draw_X1_bottlesReady : GoodIn wsX2_draw (wsV RX2 68 RX1 yX1_bottlesReady wsX1_bottlesReady) := goodIn_app (goodIn_of _ (by decide +kernel)) ggX2_draw_X1_bottlesReady
set_option maxRecDepth 20000 in
theorem ggX2_draw_X1_greatestAge : GoodIn wsX2_draw wsX1_greatestAge := goodIn_r _ [33, 11, 12, 19, 20, 21, 8, 22, 23, 24, 25, 26, 27, 28, 29, 59, 60, 61, 62, 63, 64, 65, 66, 67, 68, 69] (by decide +kernel) (by decide +kernel)
set_option maxRecDepth 20000 in
theorem gX2_draw_X1_greatestAge : GoodIn wsX2_draw (wsV RX2 71 RX1 yX1_greatestAge wsX1_greatestAge) := goodIn_app (goodIn_of _ (by decide +kernel)) ggX2_draw_X1_greatestAge
set_option maxRecDepth 20000 in
theorem ggX2_draw_X2_kindAt : GoodIn wsX2_draw wsX2_kindAt := goodIn_r _ [37, 38, 39] (by decide +kernel) (by decide +kernel)
set_option maxRecDepth 20000 in
theorem gX2_draw_X2_kindAt : GoodIn wsX2_draw (va_wsS RX2 74 yX2_kindAt wsX2_kindAt) := goodIn_app (goodIn_of _ (by decide +kernel)) ggX2_draw_X2_kindAt
set_option maxRecDepth 20000 in
theorem ggX2_draw_X1_takeBottles : GoodIn wsX2_draw wsX1_takeBottles := goodIn_r _ [43, 10, 18, 16, 11, 44, 45, 46, 27, 47, 29, 48, 49, 50, 51, 52, 53, 54, 59, 60, 61, 62, 63, 64, 65, 66, 67, 68, 69] (by decide +kernel) (by decide +kernel)
set_option maxRecDepth 20000 in
theorem gX2_draw_X1_takeBottles : GoodIn wsX2_draw (wsV RX2 78 RX1 yX1_takeBottles wsX1_takeBottles) := goodIn_app (goodIn_of _ (by decide +kernel)) ggX2_draw_X1_takeBottles
theorem dX2_draw_0 : decode cX2_draw 0 = .ok (.iload_n 1, 1) := by decide +kernel
theorem dX2_draw_1 : decode cX2_draw 1 = .ok (.iconst 1, 1) := by decide +kernel
theorem dX2_draw_2 : decode cX2_draw 2 = .ok (.if_icmp .lt 10, 3) := by decide +kernel
theorem dX2_draw_5 : decode cX2_draw 5 = .ok (.iload_n 1, 1) := by decide +kernel
theorem dX2_draw_6 : decode cX2_draw 6 = .ok (.sipush 1000, 3) := by decide +kernel
theorem dX2_draw_9 : decode cX2_draw 9 = .ok (.if_icmp .le 13, 3) := by decide +kernel
theorem dX2_draw_12 : decode cX2_draw 12 = .ok (.new 27, 3) := by decide +kernel
theorem dX2_draw_15 : decode cX2_draw 15 = .ok (.dup, 1) := by decide +kernel
theorem dX2_draw_16 : decode cX2_draw 16 = .ok (.ldc 66, 2) := by decide +kernel
theorem dX2_draw_18 : decode cX2_draw 18 = .ok (.invokespecial 31, 3) := by decide +kernel
theorem dX2_draw_21 : decode cX2_draw 21 = .ok (.athrow, 1) := by decide +kernel
theorem dX2_draw_22 : decode cX2_draw 22 = .ok (.aload_n 0, 1) := by decide +kernel
theorem dX2_draw_23 : decode cX2_draw 23 = .ok (.getfield 10, 3) := by decide +kernel
theorem dX2_draw_26 : decode cX2_draw 26 = .ok (.invokevirtual 68, 3) := by decide +kernel
theorem dX2_draw_29 : decode cX2_draw 29 = .ok (.istore_n 2, 1) := by decide +kernel
theorem dX2_draw_30 : decode cX2_draw 30 = .ok (.iload_n 1, 1) := by decide +kernel
theorem dX2_draw_31 : decode cX2_draw 31 = .ok (.iload_n 2, 1) := by decide +kernel
theorem dX2_draw_32 : decode cX2_draw 32 = .ok (.if_icmp .ge 7, 3) := by decide +kernel
theorem dX2_draw_35 : decode cX2_draw 35 = .ok (.iload_n 1, 1) := by decide +kernel
theorem dX2_draw_36 : decode cX2_draw 36 = .ok (.goto 4, 3) := by decide +kernel
theorem dX2_draw_39 : decode cX2_draw 39 = .ok (.iload_n 2, 1) := by decide +kernel
theorem dX2_draw_40 : decode cX2_draw 40 = .ok (.istore_n 3, 1) := by decide +kernel
theorem dX2_draw_41 : decode cX2_draw 41 = .ok (.iload_n 3, 1) := by decide +kernel
theorem dX2_draw_42 : decode cX2_draw 42 = .ok (.ifCond .le 30, 3) := by decide +kernel
theorem dX2_draw_45 : decode cX2_draw 45 = .ok (.aload_n 0, 1) := by decide +kernel
theorem dX2_draw_46 : decode cX2_draw 46 = .ok (.getfield 19, 3) := by decide +kernel
theorem dX2_draw_49 : decode cX2_draw 49 = .ok (.aload_n 0, 1) := by decide +kernel
theorem dX2_draw_50 : decode cX2_draw 50 = .ok (.getfield 10, 3) := by decide +kernel
theorem dX2_draw_53 : decode cX2_draw 53 = .ok (.invokevirtual 71, 3) := by decide +kernel
theorem dX2_draw_56 : decode cX2_draw 56 = .ok (.invokestatic 74, 3) := by decide +kernel
theorem dX2_draw_59 : decode cX2_draw 59 = .ok (.dup2, 1) := by decide +kernel
theorem dX2_draw_60 : decode cX2_draw 60 = .ok (.iaload, 1) := by decide +kernel
theorem dX2_draw_61 : decode cX2_draw 61 = .ok (.iload_n 3, 1) := by decide +kernel
theorem dX2_draw_62 : decode cX2_draw 62 = .ok (.iadd, 1) := by decide +kernel
theorem dX2_draw_63 : decode cX2_draw 63 = .ok (.iastore, 1) := by decide +kernel
theorem dX2_draw_64 : decode cX2_draw 64 = .ok (.aload_n 0, 1) := by decide +kernel
theorem dX2_draw_65 : decode cX2_draw 65 = .ok (.getfield 10, 3) := by decide +kernel
theorem dX2_draw_68 : decode cX2_draw 68 = .ok (.iload_n 3, 1) := by decide +kernel
theorem dX2_draw_69 : decode cX2_draw 69 = .ok (.invokevirtual 78, 3) := by decide +kernel
theorem dX2_draw_72 : decode cX2_draw 72 = .ok (.iload_n 3, 1) := by decide +kernel
theorem dX2_draw_73 : decode cX2_draw 73 = .ok (.ireturn, 1) := by decide +kernel
set_option maxRecDepth 20000 in
theorem ggX2_pourAway_X2_barrelNumbered : GoodIn wsX2_pourAway wsX2_barrelNumbered := goodIn_ca (goodIn_r _ [6, 7, 8, 9, 10, 11, 27, 28, 29, 30, 31, 32, 33, 34, 35] (by decide +kernel) (by decide +kernel)) (goodIn_sub (fun _ h => List.mem_cons_of_mem _ (List.mem_append_right _ h)) (by decide +kernel))
set_option maxRecDepth 20000 in
theorem gX2_pourAway_X2_barrelNumbered : GoodIn wsX2_pourAway (wsV RX2 82 RX2 yX2_barrelNumbered wsX2_barrelNumbered) := goodIn_app (goodIn_of _ (by decide +kernel)) ggX2_pourAway_X2_barrelNumbered
set_option maxRecDepth 20000 in
theorem ggX2_pourAway_X0_clear : GoodIn wsX2_pourAway wsX0_clear := goodIn_r _ [16, 17, 18, 19, 20, 21, 22, 23, 24, 25, 26] (by decide +kernel) (by decide +kernel)
set_option maxRecDepth 20000 in
theorem gX2_pourAway_X0_clear : GoodIn wsX2_pourAway (wsV RX2 92 RX0 yX0_clear wsX0_clear) := goodIn_app (goodIn_of _ (by decide +kernel)) ggX2_pourAway_X0_clear
theorem dX2_pourAway_0 : decode cX2_pourAway 0 = .ok (.aload_n 0, 1) := by decide +kernel
theorem dX2_pourAway_1 : decode cX2_pourAway 1 = .ok (.iload_n 1, 1) := by decide +kernel
theorem dX2_pourAway_2 : decode cX2_pourAway 2 = .ok (.invokevirtual 82, 3) := by decide +kernel
theorem dX2_pourAway_5 : decode cX2_pourAway 5 = .ok (.astore_n 2, 1) := by decide +kernel
theorem dX2_pourAway_6 : decode cX2_pourAway 6 = .ok (.aload_n 2, 1) := by decide +kernel
theorem dX2_pourAway_7 : decode cX2_pourAway 7 = .ok (.getfield 86, 3) := by decide +kernel
theorem dX2_pourAway_10 : decode cX2_pourAway 10 = .ok (.dstore_n 3, 1) := by decide +kernel
theorem dX2_pourAway_11 : decode cX2_pourAway 11 = .ok (.aload_n 2, 1) := by decide +kernel
theorem dX2_pourAway_12 : decode cX2_pourAway 12 = .ok (.invokevirtual 92, 3) := by decide +kernel
theorem dX2_pourAway_15 : decode cX2_pourAway 15 = .ok (.dload_n 3, 1) := by decide +kernel
theorem dX2_pourAway_16 : decode cX2_pourAway 16 = .ok (.dreturn, 1) := by decide +kernel
theorem dX2_setWarmth_0 : decode cX2_setWarmth 0 = .ok (.iload_n 1, 1) := by decide +kernel
theorem dX2_setWarmth_1 : decode cX2_setWarmth 1 = .ok (.ifCond .lt 9, 3) := by decide +kernel
theorem dX2_setWarmth_4 : decode cX2_setWarmth 4 = .ok (.iload_n 1, 1) := by decide +kernel
theorem dX2_setWarmth_5 : decode cX2_setWarmth 5 = .ok (.bipush 40, 2) := by decide +kernel
theorem dX2_setWarmth_7 : decode cX2_setWarmth 7 = .ok (.if_icmp .le 13, 3) := by decide +kernel
theorem dX2_setWarmth_10 : decode cX2_setWarmth 10 = .ok (.new 27, 3) := by decide +kernel
theorem dX2_setWarmth_13 : decode cX2_setWarmth 13 = .ok (.dup, 1) := by decide +kernel
theorem dX2_setWarmth_14 : decode cX2_setWarmth 14 = .ok (.ldc 95, 2) := by decide +kernel
theorem dX2_setWarmth_16 : decode cX2_setWarmth 16 = .ok (.invokespecial 31, 3) := by decide +kernel
theorem dX2_setWarmth_19 : decode cX2_setWarmth 19 = .ok (.athrow, 1) := by decide +kernel
theorem dX2_setWarmth_20 : decode cX2_setWarmth 20 = .ok (.aload_n 0, 1) := by decide +kernel
theorem dX2_setWarmth_21 : decode cX2_setWarmth 21 = .ok (.getfield 10, 3) := by decide +kernel
theorem dX2_setWarmth_24 : decode cX2_setWarmth 24 = .ok (.iload_n 1, 1) := by decide +kernel
theorem dX2_setWarmth_25 : decode cX2_setWarmth 25 = .ok (.putfield 97, 3) := by decide +kernel
theorem dX2_setWarmth_28 : decode cX2_setWarmth 28 = .ok (.return_, 1) := by decide +kernel
theorem dX2_barrels_0 : decode cX2_barrels 0 = .ok (.aload_n 0, 1) := by decide +kernel
theorem dX2_barrels_1 : decode cX2_barrels 1 = .ok (.getfield 10, 3) := by decide +kernel
theorem dX2_barrels_4 : decode cX2_barrels 4 = .ok (.getfield 100, 3) := by decide +kernel
theorem dX2_barrels_7 : decode cX2_barrels 7 = .ok (.ireturn, 1) := by decide +kernel
set_option maxRecDepth 20000 in
theorem ggX2_litresIn_X2_barrelNumbered : GoodIn wsX2_litresIn wsX2_barrelNumbered := goodIn_ca (goodIn_r _ [6, 7, 8, 9, 10, 11, 18, 19, 20, 21, 22, 23, 24, 25, 26] (by decide +kernel) (by decide +kernel)) (goodIn_sub (fun _ h => List.mem_cons_of_mem _ (List.mem_append_right _ h)) (by decide +kernel))
set_option maxRecDepth 20000 in
theorem gX2_litresIn_X2_barrelNumbered : GoodIn wsX2_litresIn (wsV RX2 82 RX2 yX2_barrelNumbered wsX2_barrelNumbered) := goodIn_app (goodIn_of _ (by decide +kernel)) ggX2_litresIn_X2_barrelNumbered
theorem dX2_litresIn_0 : decode cX2_litresIn 0 = .ok (.aload_n 0, 1) := by decide +kernel
theorem dX2_litresIn_1 : decode cX2_litresIn 1 = .ok (.iload_n 1, 1) := by decide +kernel
theorem dX2_litresIn_2 : decode cX2_litresIn 2 = .ok (.invokevirtual 82, 3) := by decide +kernel
theorem dX2_litresIn_5 : decode cX2_litresIn 5 = .ok (.getfield 86, 3) := by decide +kernel
theorem dX2_litresIn_8 : decode cX2_litresIn 8 = .ok (.dreturn, 1) := by decide +kernel
set_option maxRecDepth 20000 in
theorem ggX2_ageOf_X2_barrelNumbered : GoodIn wsX2_ageOf wsX2_barrelNumbered := goodIn_ca (goodIn_r _ [6, 7, 8, 9, 10, 11, 18, 19, 20, 21, 22, 23, 24, 25, 26] (by decide +kernel) (by decide +kernel)) (goodIn_sub (fun _ h => List.mem_cons_of_mem _ (List.mem_append_right _ h)) (by decide +kernel))
set_option maxRecDepth 20000 in
theorem gX2_ageOf_X2_barrelNumbered : GoodIn wsX2_ageOf (wsV RX2 82 RX2 yX2_barrelNumbered wsX2_barrelNumbered) := goodIn_app (goodIn_of _ (by decide +kernel)) ggX2_ageOf_X2_barrelNumbered
theorem dX2_ageOf_0 : decode cX2_ageOf 0 = .ok (.aload_n 0, 1) := by decide +kernel
theorem dX2_ageOf_1 : decode cX2_ageOf 1 = .ok (.iload_n 1, 1) := by decide +kernel
theorem dX2_ageOf_2 : decode cX2_ageOf 2 = .ok (.invokevirtual 82, 3) := by decide +kernel
theorem dX2_ageOf_5 : decode cX2_ageOf 5 = .ok (.getfield 103, 3) := by decide +kernel
theorem dX2_ageOf_8 : decode cX2_ageOf 8 = .ok (.dreturn, 1) := by decide +kernel
set_option maxRecDepth 20000 in
theorem ggX2_acidOf_X2_barrelNumbered : GoodIn wsX2_acidOf wsX2_barrelNumbered := goodIn_ca (goodIn_r _ [6, 7, 8, 9, 10, 11, 18, 19, 20, 21, 22, 23, 24, 25, 26] (by decide +kernel) (by decide +kernel)) (goodIn_sub (fun _ h => List.mem_cons_of_mem _ (List.mem_append_right _ h)) (by decide +kernel))
set_option maxRecDepth 20000 in
theorem gX2_acidOf_X2_barrelNumbered : GoodIn wsX2_acidOf (wsV RX2 82 RX2 yX2_barrelNumbered wsX2_barrelNumbered) := goodIn_app (goodIn_of _ (by decide +kernel)) ggX2_acidOf_X2_barrelNumbered
theorem dX2_acidOf_0 : decode cX2_acidOf 0 = .ok (.aload_n 0, 1) := by decide +kernel
theorem dX2_acidOf_1 : decode cX2_acidOf 1 = .ok (.iload_n 1, 1) := by decide +kernel
theorem dX2_acidOf_2 : decode cX2_acidOf 2 = .ok (.invokevirtual 82, 3) := by decide +kernel
theorem dX2_acidOf_5 : decode cX2_acidOf 5 = .ok (.getfield 106, 3) := by decide +kernel
theorem dX2_acidOf_8 : decode cX2_acidOf 8 = .ok (.dreturn, 1) := by decide +kernel
set_option maxRecDepth 20000 in
theorem ggX2_sugarOf_X2_barrelNumbered : GoodIn wsX2_sugarOf wsX2_barrelNumbered := goodIn_ca (goodIn_r _ [6, 7, 8, 9, 10, 11, 18, 19, 20, 21, 22, 23, 24, 25, 26] (by decide +kernel) (by decide +kernel)) (goodIn_sub (fun _ h => List.mem_cons_of_mem _ (List.mem_append_right _ h)) (by decide +kernel))
set_option maxRecDepth 20000 in
theorem gX2_sugarOf_X2_barrelNumbered : GoodIn wsX2_sugarOf (wsV RX2 82 RX2 yX2_barrelNumbered wsX2_barrelNumbered) := goodIn_app (goodIn_of _ (by decide +kernel)) ggX2_sugarOf_X2_barrelNumbered
theorem dX2_sugarOf_0 : decode cX2_sugarOf 0 = .ok (.aload_n 0, 1) := by decide +kernel
theorem dX2_sugarOf_1 : decode cX2_sugarOf 1 = .ok (.iload_n 1, 1) := by decide +kernel
theorem dX2_sugarOf_2 : decode cX2_sugarOf 2 = .ok (.invokevirtual 82, 3) := by decide +kernel
theorem dX2_sugarOf_5 : decode cX2_sugarOf 5 = .ok (.getfield 109, 3) := by decide +kernel
theorem dX2_sugarOf_8 : decode cX2_sugarOf 8 = .ok (.dreturn, 1) := by decide +kernel
set_option maxRecDepth 20000 in
theorem ggX2_tasteOf_X2_barrelNumbered : GoodIn wsX2_tasteOf wsX2_barrelNumbered := goodIn_ca (goodIn_r _ [5, 6, 7, 8, 9, 10, 28, 29, 30, 31, 32, 33, 34, 35, 36] (by decide +kernel) (by decide +kernel)) (goodIn_sub (fun _ h => List.mem_cons_of_mem _ (List.mem_append_right _ h)) (by decide +kernel))
set_option maxRecDepth 20000 in
theorem gX2_tasteOf_X2_barrelNumbered : GoodIn wsX2_tasteOf (wsV RX2 82 RX2 yX2_barrelNumbered wsX2_barrelNumbered) := goodIn_app (goodIn_of _ (by decide +kernel)) ggX2_tasteOf_X2_barrelNumbered
set_option maxRecDepth 20000 in
theorem ggX2_tasteOf_X0_taste : GoodIn wsX2_tasteOf wsX0_taste := goodIn_r _ [15, 16, 17, 18, 19, 20, 21, 22, 23, 24, 25, 14, 26, 27, 37, 38, 39, 40, 41, 42] (by decide +kernel) (by decide +kernel)
set_option maxRecDepth 20000 in
theorem gX2_tasteOf_X0_taste : GoodIn wsX2_tasteOf (wsV RX2 112 RX0 yX0_taste wsX0_taste) := goodIn_app (goodIn_of _ (by decide +kernel)) ggX2_tasteOf_X0_taste
theorem dX2_tasteOf_0 : decode cX2_tasteOf 0 = .ok (.aload_n 0, 1) := by decide +kernel
theorem dX2_tasteOf_1 : decode cX2_tasteOf 1 = .ok (.iload_n 1, 1) := by decide +kernel
theorem dX2_tasteOf_2 : decode cX2_tasteOf 2 = .ok (.invokevirtual 82, 3) := by decide +kernel
theorem dX2_tasteOf_5 : decode cX2_tasteOf 5 = .ok (.invokevirtual 112, 3) := by decide +kernel
theorem dX2_tasteOf_8 : decode cX2_tasteOf 8 = .ok (.dreturn, 1) := by decide +kernel
set_option maxRecDepth 20000 in
theorem ggX2_oldest_X1_eldest : GoodIn wsX2_oldest wsX1_eldest := goodIn_r _ [6, 7, 8, 9, 10, 11, 12, 13, 14, 15, 20, 21, 22, 23, 24, 25, 26, 27, 28, 29, 30] (by decide +kernel) (by decide +kernel)
set_option maxRecDepth 20000 in
theorem gX2_oldest_X1_eldest : GoodIn wsX2_oldest (wsV RX2 115 RX1 yX1_eldest wsX1_eldest) := goodIn_app (goodIn_of _ (by decide +kernel)) ggX2_oldest_X1_eldest
theorem dX2_oldest_0 : decode cX2_oldest 0 = .ok (.aload_n 0, 1) := by decide +kernel
theorem dX2_oldest_1 : decode cX2_oldest 1 = .ok (.getfield 10, 3) := by decide +kernel
theorem dX2_oldest_4 : decode cX2_oldest 4 = .ok (.invokevirtual 115, 3) := by decide +kernel
theorem dX2_oldest_7 : decode cX2_oldest 7 = .ok (.ireturn, 1) := by decide +kernel
set_option maxRecDepth 20000 in
theorem ggX2_drawable_X1_bottlesReady : GoodIn wsX2_drawable wsX1_bottlesReady := goodIn_r _ [6, 7, 8, 9, 10, 11, 12, 13, 14, 15, 16, 17, 18, 5, 19, 20, 21, 22, 23, 24, 25, 26, 31, 32, 33, 34, 35, 36, 37, 38, 39, 40, 41] (by decide +kernel) (by decide +kernel)
set_option maxRecDepth 20000 in
theorem gX2_drawable_X1_bottlesReady : GoodIn wsX2_drawable (wsV RX2 68 RX1 yX1_bottlesReady wsX1_bottlesReady) := goodIn_app (goodIn_of _ (by decide +kernel)) ggX2_drawable_X1_bottlesReady
theorem dX2_drawable_0 : decode cX2_drawable 0 = .ok (.aload_n 0, 1) := by decide +kernel
theorem dX2_drawable_1 : decode cX2_drawable 1 = .ok (.getfield 10, 3) := by decide +kernel
theorem dX2_drawable_4 : decode cX2_drawable 4 = .ok (.invokevirtual 68, 3) := by decide +kernel
theorem dX2_drawable_7 : decode cX2_drawable 7 = .ok (.ireturn, 1) := by decide +kernel
theorem dX2_bottles_0 : decode cX2_bottles 0 = .ok (.iload_n 1, 1) := by decide +kernel
theorem dX2_bottles_1 : decode cX2_bottles 1 = .ok (.ifCond .lt 8, 3) := by decide +kernel
theorem dX2_bottles_4 : decode cX2_bottles 4 = .ok (.iload_n 1, 1) := by decide +kernel
theorem dX2_bottles_5 : decode cX2_bottles 5 = .ok (.iconst 3, 1) := by decide +kernel
theorem dX2_bottles_6 : decode cX2_bottles 6 = .ok (.if_icmp .lt 13, 3) := by decide +kernel
theorem dX2_bottles_9 : decode cX2_bottles 9 = .ok (.new 27, 3) := by decide +kernel
theorem dX2_bottles_12 : decode cX2_bottles 12 = .ok (.dup, 1) := by decide +kernel
theorem dX2_bottles_13 : decode cX2_bottles 13 = .ok (.ldc 118, 2) := by decide +kernel
theorem dX2_bottles_15 : decode cX2_bottles 15 = .ok (.invokespecial 31, 3) := by decide +kernel
theorem dX2_bottles_18 : decode cX2_bottles 18 = .ok (.athrow, 1) := by decide +kernel
theorem dX2_bottles_19 : decode cX2_bottles 19 = .ok (.aload_n 0, 1) := by decide +kernel
theorem dX2_bottles_20 : decode cX2_bottles 20 = .ok (.getfield 19, 3) := by decide +kernel
theorem dX2_bottles_23 : decode cX2_bottles 23 = .ok (.iload_n 1, 1) := by decide +kernel
theorem dX2_bottles_24 : decode cX2_bottles 24 = .ok (.iaload, 1) := by decide +kernel
theorem dX2_bottles_25 : decode cX2_bottles 25 = .ok (.ireturn, 1) := by decide +kernel
theorem dX2_years_0 : decode cX2_years 0 = .ok (.aload_n 0, 1) := by decide +kernel
theorem dX2_years_1 : decode cX2_years 1 = .ok (.getfield 23, 3) := by decide +kernel
theorem dX2_years_4 : decode cX2_years 4 = .ok (.ireturn, 1) := by decide +kernel
set_option maxRecDepth 20000 in
theorem ggX2_meanAge_X1_allLitres : GoodIn wsX2_meanAge wsX1_allLitres := goodIn_r _ [6, 7, 8, 9, 19, 20, 21, 22, 23, 24, 25, 26, 27, 28, 29] (by decide +kernel) (by decide +kernel)
set_option maxRecDepth 20000 in
theorem gX2_meanAge_X1_allLitres : GoodIn wsX2_meanAge (wsV RX2 120 RX1 yX1_allLitres wsX1_allLitres) := goodIn_app (goodIn_of _ (by decide +kernel)) ggX2_meanAge_X1_allLitres
set_option maxRecDepth 20000 in
theorem ggX2_meanAge_X1_litresTimesAge : GoodIn wsX2_meanAge wsX1_litresTimesAge := goodIn_r _ [13, 7, 8, 9, 14, 19, 20, 21, 22, 23, 24, 25, 26, 27, 28, 29] (by decide +kernel) (by decide +kernel)
set_option maxRecDepth 20000 in
theorem gX2_meanAge_X1_litresTimesAge : GoodIn wsX2_meanAge (wsV RX2 123 RX1 yX1_litresTimesAge wsX1_litresTimesAge) := goodIn_app (goodIn_of _ (by decide +kernel)) ggX2_meanAge_X1_litresTimesAge
theorem dX2_meanAge_0 : decode cX2_meanAge 0 = .ok (.aload_n 0, 1) := by decide +kernel
theorem dX2_meanAge_1 : decode cX2_meanAge 1 = .ok (.getfield 10, 3) := by decide +kernel
theorem dX2_meanAge_4 : decode cX2_meanAge 4 = .ok (.invokevirtual 120, 3) := by decide +kernel
theorem dX2_meanAge_7 : decode cX2_meanAge 7 = .ok (.dstore_n 1, 1) := by decide +kernel
theorem dX2_meanAge_8 : decode cX2_meanAge 8 = .ok (.dload_n 1, 1) := by decide +kernel
theorem dX2_meanAge_9 : decode cX2_meanAge 9 = .ok (.dconst 0, 1) := by decide +kernel
theorem dX2_meanAge_10 : decode cX2_meanAge 10 = .ok (.dcmp .l, 1) := by decide +kernel
theorem dX2_meanAge_11 : decode cX2_meanAge 11 = .ok (.ifCond .le 15, 3) := by decide +kernel
theorem dX2_meanAge_14 : decode cX2_meanAge 14 = .ok (.aload_n 0, 1) := by decide +kernel
theorem dX2_meanAge_15 : decode cX2_meanAge 15 = .ok (.getfield 10, 3) := by decide +kernel
theorem dX2_meanAge_18 : decode cX2_meanAge 18 = .ok (.invokevirtual 123, 3) := by decide +kernel
theorem dX2_meanAge_21 : decode cX2_meanAge 21 = .ok (.dload_n 1, 1) := by decide +kernel
theorem dX2_meanAge_22 : decode cX2_meanAge 22 = .ok (.ddiv, 1) := by decide +kernel
theorem dX2_meanAge_23 : decode cX2_meanAge 23 = .ok (.goto 4, 3) := by decide +kernel
theorem dX2_meanAge_26 : decode cX2_meanAge 26 = .ok (.dconst 0, 1) := by decide +kernel
theorem dX2_meanAge_27 : decode cX2_meanAge 27 = .ok (.dreturn, 1) := by decide +kernel
set_option maxRecDepth 20000 in
theorem ggX2_meanSugar_X1_allLitres : GoodIn wsX2_meanSugar wsX1_allLitres := goodIn_r _ [6, 7, 8, 9, 19, 20, 21, 22, 23, 24, 25, 26, 27, 28, 29] (by decide +kernel) (by decide +kernel)
set_option maxRecDepth 20000 in
theorem gX2_meanSugar_X1_allLitres : GoodIn wsX2_meanSugar (wsV RX2 120 RX1 yX1_allLitres wsX1_allLitres) := goodIn_app (goodIn_of _ (by decide +kernel)) ggX2_meanSugar_X1_allLitres
set_option maxRecDepth 20000 in
theorem ggX2_meanSugar_X1_litresTimesSugar : GoodIn wsX2_meanSugar wsX1_litresTimesSugar := goodIn_r _ [13, 7, 8, 9, 14, 19, 20, 21, 22, 23, 24, 25, 26, 27, 28, 29] (by decide +kernel) (by decide +kernel)
set_option maxRecDepth 20000 in
theorem gX2_meanSugar_X1_litresTimesSugar : GoodIn wsX2_meanSugar (wsV RX2 126 RX1 yX1_litresTimesSugar wsX1_litresTimesSugar) := goodIn_app (goodIn_of _ (by decide +kernel)) ggX2_meanSugar_X1_litresTimesSugar
theorem dX2_meanSugar_0 : decode cX2_meanSugar 0 = .ok (.aload_n 0, 1) := by decide +kernel
theorem dX2_meanSugar_1 : decode cX2_meanSugar 1 = .ok (.getfield 10, 3) := by decide +kernel
theorem dX2_meanSugar_4 : decode cX2_meanSugar 4 = .ok (.invokevirtual 120, 3) := by decide +kernel
theorem dX2_meanSugar_7 : decode cX2_meanSugar 7 = .ok (.dstore_n 1, 1) := by decide +kernel
theorem dX2_meanSugar_8 : decode cX2_meanSugar 8 = .ok (.dload_n 1, 1) := by decide +kernel
theorem dX2_meanSugar_9 : decode cX2_meanSugar 9 = .ok (.dconst 0, 1) := by decide +kernel
theorem dX2_meanSugar_10 : decode cX2_meanSugar 10 = .ok (.dcmp .l, 1) := by decide +kernel
theorem dX2_meanSugar_11 : decode cX2_meanSugar 11 = .ok (.ifCond .le 15, 3) := by decide +kernel
theorem dX2_meanSugar_14 : decode cX2_meanSugar 14 = .ok (.aload_n 0, 1) := by decide +kernel
theorem dX2_meanSugar_15 : decode cX2_meanSugar 15 = .ok (.getfield 10, 3) := by decide +kernel
theorem dX2_meanSugar_18 : decode cX2_meanSugar 18 = .ok (.invokevirtual 126, 3) := by decide +kernel
theorem dX2_meanSugar_21 : decode cX2_meanSugar 21 = .ok (.dload_n 1, 1) := by decide +kernel
theorem dX2_meanSugar_22 : decode cX2_meanSugar 22 = .ok (.ddiv, 1) := by decide +kernel
theorem dX2_meanSugar_23 : decode cX2_meanSugar 23 = .ok (.goto 4, 3) := by decide +kernel
theorem dX2_meanSugar_26 : decode cX2_meanSugar 26 = .ok (.dconst 0, 1) := by decide +kernel
theorem dX2_meanSugar_27 : decode cX2_meanSugar 27 = .ok (.dreturn, 1) := by decide +kernel
set_option maxRecDepth 20000 in
theorem ggX2_firstBottleIn_X1_bottlesReady : GoodIn wsX2_firstBottleIn wsX1_bottlesReady := goodIn_r _ [7, 8, 9, 10, 11, 12, 13, 14, 15, 16, 17, 18, 19, 6, 20, 21, 22, 23, 24, 25, 26, 27, 112, 113, 114, 115, 116, 117, 118, 119, 120, 121, 122] (by decide +kernel) (by decide +kernel)
set_option maxRecDepth 20000 in
theorem gX2_firstBottleIn_X1_bottlesReady : GoodIn wsX2_firstBottleIn (wsV RX2 68 RX1 yX1_bottlesReady wsX1_bottlesReady) := goodIn_app (goodIn_of _ (by decide +kernel)) ggX2_firstBottleIn_X1_bottlesReady
set_option maxRecDepth 20000 in
theorem ggX2_firstBottleIn_X1_copyFrom : GoodIn wsX2_firstBottleIn wsX1_copyFrom := goodIn_r _ [31, 21, 32, 8, 14, 9, 33, 34, 35, 25, 36, 37, 38, 27, 39, 40, 41, 112, 113, 114, 115, 116, 117, 118, 119, 120, 121, 122] (by decide +kernel) (by decide +kernel)
set_option maxRecDepth 20000 in
theorem gX2_firstBottleIn_X1_copyFrom : GoodIn wsX2_firstBottleIn (wsV RX2 129 RX1 yX1_copyFrom wsX1_copyFrom) := goodIn_app (goodIn_of _ (by decide +kernel)) ggX2_firstBottleIn_X1_copyFrom
set_option maxRecDepth 20000 in
theorem ggX2_firstBottleIn_X1_pourMust : GoodIn wsX2_firstBottleIn wsX1_pourMust := goodIn_r _ [45, 21, 9, 46, 15, 47, 48, 49, 50, 25, 51, 27, 39, 40, 41, 52, 53, 54, 112, 113, 114, 115, 116, 117, 118, 119, 120, 121, 122] (by decide +kernel) (by decide +kernel)
set_option maxRecDepth 20000 in
theorem gX2_firstBottleIn_X1_pourMust : GoodIn wsX2_firstBottleIn (wsV RX2 55 RX1 yX1_pourMust wsX1_pourMust) := goodIn_app (goodIn_of _ (by decide +kernel)) ggX2_firstBottleIn_X1_pourMust
set_option maxRecDepth 20000 in
theorem ggX2_firstBottleIn_X1_passDown : GoodIn wsX2_firstBottleIn wsX1_passDown := goodIn_r _ [58, 21, 9, 59, 60, 6, 61, 62, 46, 15, 63, 10, 64, 12, 48, 49, 50, 25, 51, 27, 39, 40, 41, 52, 53, 54, 65, 66, 67, 68, 69, 70, 71, 72, 112, 113, 114, 115, 116, 117, 118, 119, 120, 121, 122] (by decide +kernel) (by decide +kernel)
set_option maxRecDepth 20000 in
theorem gX2_firstBottleIn_X1_passDown : GoodIn wsX2_firstBottleIn (wsV RX2 59 RX1 yX1_passDown wsX1_passDown) := goodIn_app (goodIn_of _ (by decide +kernel)) ggX2_firstBottleIn_X1_passDown
set_option maxRecDepth 20000 in
theorem ggX2_firstBottleIn_X1_ageAll : GoodIn wsX2_firstBottleIn wsX1_ageAll := goodIn_r _ [76, 21, 9, 8, 77, 15, 14, 78, 79, 80, 6, 81, 82, 32, 83, 22, 23, 24, 25, 26, 27, 84, 85, 86, 87, 37, 41, 88, 39, 89, 90, 91, 92, 93, 94, 95, 96, 66, 67, 68, 69, 70, 71, 72, 40, 97, 98, 99, 100, 101, 102, 103, 104, 105, 106, 107, 17, 18, 19, 20, 10, 112, 113, 114, 115, 116, 117, 118, 119, 120, 121, 122] (by decide +kernel) (by decide +kernel)
set_option maxRecDepth 20000 in
theorem gX2_firstBottleIn_X1_ageAll : GoodIn wsX2_firstBottleIn (wsV RX2 63 RX1 yX1_ageAll wsX1_ageAll) := goodIn_app (goodIn_of _ (by decide +kernel)) ggX2_firstBottleIn_X1_ageAll
end
section
theorem dX2_firstBottleIn_0 : decode cX2_firstBottleIn 0 = .ok (.aload_n 0, 1) := by decide +kernel
theorem dX2_firstBottleIn_1 : decode cX2_firstBottleIn 1 = .ok (.getfield 10, 3) := by decide +kernel
theorem dX2_firstBottleIn_4 : decode cX2_firstBottleIn 4 = .ok (.invokevirtual 68, 3) := by decide +kernel
theorem dX2_firstBottleIn_7 : decode cX2_firstBottleIn 7 = .ok (.ifCond .le 5, 3) := by decide +kernel
theorem dX2_firstBottleIn_10 : decode cX2_firstBottleIn 10 = .ok (.iconst 0, 1) := by decide +kernel
theorem dX2_firstBottleIn_11 : decode cX2_firstBottleIn 11 = .ok (.ireturn, 1) := by decide +kernel
theorem dX2_firstBottleIn_12 : decode cX2_firstBottleIn 12 = .ok (.aload_n 0, 1) := by decide +kernel
theorem dX2_firstBottleIn_13 : decode cX2_firstBottleIn 13 = .ok (.getfield 16, 3) := by decide +kernel
theorem dX2_firstBottleIn_16 : decode cX2_firstBottleIn 16 = .ok (.aload_n 0, 1) := by decide +kernel
theorem dX2_firstBottleIn_17 : decode cX2_firstBottleIn 17 = .ok (.getfield 10, 3) := by decide +kernel
theorem dX2_firstBottleIn_20 : decode cX2_firstBottleIn 20 = .ok (.invokevirtual 129, 3) := by decide +kernel
theorem dX2_firstBottleIn_23 : decode cX2_firstBottleIn 23 = .ok (.iconst 1, 1) := by decide +kernel
theorem dX2_firstBottleIn_24 : decode cX2_firstBottleIn 24 = .ok (.istore_n 1, 1) := by decide +kernel
theorem dX2_firstBottleIn_25 : decode cX2_firstBottleIn 25 = .ok (.iload_n 1, 1) := by decide +kernel
theorem dX2_firstBottleIn_26 : decode cX2_firstBottleIn 26 = .ok (.bipush 60, 2) := by decide +kernel
theorem dX2_firstBottleIn_28 : decode cX2_firstBottleIn 28 = .ok (.if_icmp .gt 47, 3) := by decide +kernel
theorem dX2_firstBottleIn_31 : decode cX2_firstBottleIn 31 = .ok (.aload_n 0, 1) := by decide +kernel
theorem dX2_firstBottleIn_32 : decode cX2_firstBottleIn 32 = .ok (.getfield 16, 3) := by decide +kernel
theorem dX2_firstBottleIn_35 : decode cX2_firstBottleIn 35 = .ok (.bipush 100, 2) := by decide +kernel
theorem dX2_firstBottleIn_37 : decode cX2_firstBottleIn 37 = .ok (.invokevirtual 55, 3) := by decide +kernel
theorem dX2_firstBottleIn_40 : decode cX2_firstBottleIn 40 = .ok (.pop2, 1) := by decide +kernel
theorem dX2_firstBottleIn_41 : decode cX2_firstBottleIn 41 = .ok (.aload_n 0, 1) := by decide +kernel
theorem dX2_firstBottleIn_42 : decode cX2_firstBottleIn 42 = .ok (.getfield 16, 3) := by decide +kernel
theorem dX2_firstBottleIn_45 : decode cX2_firstBottleIn 45 = .ok (.invokevirtual 59, 3) := by decide +kernel
theorem dX2_firstBottleIn_48 : decode cX2_firstBottleIn 48 = .ok (.pop2, 1) := by decide +kernel
theorem dX2_firstBottleIn_49 : decode cX2_firstBottleIn 49 = .ok (.aload_n 0, 1) := by decide +kernel
theorem dX2_firstBottleIn_50 : decode cX2_firstBottleIn 50 = .ok (.getfield 16, 3) := by decide +kernel
theorem dX2_firstBottleIn_53 : decode cX2_firstBottleIn 53 = .ok (.invokevirtual 63, 3) := by decide +kernel
theorem dX2_firstBottleIn_56 : decode cX2_firstBottleIn 56 = .ok (.pop2, 1) := by decide +kernel
theorem dX2_firstBottleIn_57 : decode cX2_firstBottleIn 57 = .ok (.aload_n 0, 1) := by decide +kernel
theorem dX2_firstBottleIn_58 : decode cX2_firstBottleIn 58 = .ok (.getfield 16, 3) := by decide +kernel
theorem dX2_firstBottleIn_61 : decode cX2_firstBottleIn 61 = .ok (.invokevirtual 68, 3) := by decide +kernel
theorem dX2_firstBottleIn_64 : decode cX2_firstBottleIn 64 = .ok (.ifCond .le 5, 3) := by decide +kernel
theorem dX2_firstBottleIn_67 : decode cX2_firstBottleIn 67 = .ok (.iload_n 1, 1) := by decide +kernel
theorem dX2_firstBottleIn_68 : decode cX2_firstBottleIn 68 = .ok (.ireturn, 1) := by decide +kernel
theorem dX2_firstBottleIn_69 : decode cX2_firstBottleIn 69 = .ok (.iinc 1 1, 3) := by decide +kernel
theorem dX2_firstBottleIn_72 : decode cX2_firstBottleIn 72 = .ok (.goto (-47), 3) := by decide +kernel
theorem dX2_firstBottleIn_75 : decode cX2_firstBottleIn 75 = .ok (.iconst (-1), 1) := by decide +kernel
theorem dX2_firstBottleIn_76 : decode cX2_firstBottleIn 76 = .ok (.ireturn, 1) := by decide +kernel
theorem dX2_barrelNumbered_0 : decode cX2_barrelNumbered 0 = .ok (.iload_n 1, 1) := by decide +kernel
theorem dX2_barrelNumbered_1 : decode cX2_barrelNumbered 1 = .ok (.ifCond .lt 14, 3) := by decide +kernel
theorem dX2_barrelNumbered_4 : decode cX2_barrelNumbered 4 = .ok (.iload_n 1, 1) := by decide +kernel
theorem dX2_barrelNumbered_5 : decode cX2_barrelNumbered 5 = .ok (.aload_n 0, 1) := by decide +kernel
theorem dX2_barrelNumbered_6 : decode cX2_barrelNumbered 6 = .ok (.getfield 10, 3) := by decide +kernel
theorem dX2_barrelNumbered_9 : decode cX2_barrelNumbered 9 = .ok (.getfield 100, 3) := by decide +kernel
theorem dX2_barrelNumbered_12 : decode cX2_barrelNumbered 12 = .ok (.if_icmp .lt 13, 3) := by decide +kernel
theorem dX2_barrelNumbered_15 : decode cX2_barrelNumbered 15 = .ok (.new 133, 3) := by decide +kernel
theorem dX2_barrelNumbered_18 : decode cX2_barrelNumbered 18 = .ok (.dup, 1) := by decide +kernel
theorem dX2_barrelNumbered_19 : decode cX2_barrelNumbered 19 = .ok (.ldc 135, 2) := by decide +kernel
theorem dX2_barrelNumbered_21 : decode cX2_barrelNumbered 21 = .ok (.invokespecial 137, 3) := by decide +kernel
theorem dX2_barrelNumbered_24 : decode cX2_barrelNumbered 24 = .ok (.athrow, 1) := by decide +kernel
theorem dX2_barrelNumbered_25 : decode cX2_barrelNumbered 25 = .ok (.aload_n 0, 1) := by decide +kernel
theorem dX2_barrelNumbered_26 : decode cX2_barrelNumbered 26 = .ok (.getfield 10, 3) := by decide +kernel
theorem dX2_barrelNumbered_29 : decode cX2_barrelNumbered 29 = .ok (.getfield 138, 3) := by decide +kernel
theorem dX2_barrelNumbered_32 : decode cX2_barrelNumbered 32 = .ok (.iload_n 1, 1) := by decide +kernel
theorem dX2_barrelNumbered_33 : decode cX2_barrelNumbered 33 = .ok (.aaload, 1) := by decide +kernel
theorem dX2_barrelNumbered_34 : decode cX2_barrelNumbered 34 = .ok (.areturn, 1) := by decide +kernel
theorem dX2_kindAt_0 : decode cX2_kindAt 0 = .ok (.dload_n 0, 1) := by decide +kernel
theorem dX2_kindAt_1 : decode cX2_kindAt 1 = .ok (.ldc2_w 142, 3) := by decide +kernel
theorem dX2_kindAt_4 : decode cX2_kindAt 4 = .ok (.dcmp .g, 1) := by decide +kernel
theorem dX2_kindAt_5 : decode cX2_kindAt 5 = .ok (.ifCond .ge 5, 3) := by decide +kernel
theorem dX2_kindAt_8 : decode cX2_kindAt 8 = .ok (.iconst 0, 1) := by decide +kernel
theorem dX2_kindAt_9 : decode cX2_kindAt 9 = .ok (.ireturn, 1) := by decide +kernel
theorem dX2_kindAt_10 : decode cX2_kindAt 10 = .ok (.dload_n 0, 1) := by decide +kernel
theorem dX2_kindAt_11 : decode cX2_kindAt 11 = .ok (.ldc2_w 144, 3) := by decide +kernel
theorem dX2_kindAt_14 : decode cX2_kindAt 14 = .ok (.dcmp .g, 1) := by decide +kernel
theorem dX2_kindAt_15 : decode cX2_kindAt 15 = .ok (.ifCond .ge 7, 3) := by decide +kernel
theorem dX2_kindAt_18 : decode cX2_kindAt 18 = .ok (.iconst 1, 1) := by decide +kernel
theorem dX2_kindAt_19 : decode cX2_kindAt 19 = .ok (.goto 4, 3) := by decide +kernel
theorem dX2_kindAt_22 : decode cX2_kindAt 22 = .ok (.iconst 2, 1) := by decide +kernel
theorem dX2_kindAt_23 : decode cX2_kindAt 23 = .ok (.ireturn, 1) := by decide +kernel
theorem dX3_init_0 : decode cX3_init 0 = .ok (.aload_n 0, 1) := by decide +kernel
theorem dX3_init_1 : decode cX3_init 1 = .ok (.invokespecial 1, 3) := by decide +kernel
theorem dX3_init_4 : decode cX3_init 4 = .ok (.aload_n 0, 1) := by decide +kernel
theorem dX3_init_5 : decode cX3_init 5 = .ok (.bipush 8, 2) := by decide +kernel
theorem dX3_init_7 : decode cX3_init 7 = .ok (.newarray .int, 2) := by decide +kernel
theorem dX3_init_9 : decode cX3_init 9 = .ok (.putfield 7, 3) := by decide +kernel
theorem dX3_init_12 : decode cX3_init 12 = .ok (.aload_n 0, 1) := by decide +kernel
theorem dX3_init_13 : decode cX3_init 13 = .ok (.bipush 8, 2) := by decide +kernel
theorem dX3_init_15 : decode cX3_init 15 = .ok (.newarray .int, 2) := by decide +kernel
theorem dX3_init_17 : decode cX3_init 17 = .ok (.putfield 13, 3) := by decide +kernel
theorem dX3_init_20 : decode cX3_init 20 = .ok (.aload_n 0, 1) := by decide +kernel
theorem dX3_init_21 : decode cX3_init 21 = .ok (.bipush 32, 2) := by decide +kernel
theorem dX3_init_23 : decode cX3_init 23 = .ok (.newarray .double, 2) := by decide +kernel
theorem dX3_init_25 : decode cX3_init 25 = .ok (.putfield 16, 3) := by decide +kernel
theorem dX3_init_28 : decode cX3_init 28 = .ok (.aload_n 0, 1) := by decide +kernel
theorem dX3_init_29 : decode cX3_init 29 = .ok (.bipush 32, 2) := by decide +kernel
theorem dX3_init_31 : decode cX3_init 31 = .ok (.newarray .double, 2) := by decide +kernel
theorem dX3_init_33 : decode cX3_init 33 = .ok (.putfield 20, 3) := by decide +kernel
theorem dX3_init_36 : decode cX3_init 36 = .ok (.aload_n 0, 1) := by decide +kernel
theorem dX3_init_37 : decode cX3_init 37 = .ok (.bipush 18, 2) := by decide +kernel
theorem dX3_init_39 : decode cX3_init 39 = .ok (.putfield 23, 3) := by decide +kernel
theorem dX3_init_42 : decode cX3_init 42 = .ok (.aload_n 0, 1) := by decide +kernel
theorem dX3_init_43 : decode cX3_init 43 = .ok (.iconst (-1), 1) := by decide +kernel
theorem dX3_init_44 : decode cX3_init 44 = .ok (.putfield 27, 3) := by decide +kernel
theorem dX3_init_47 : decode cX3_init 47 = .ok (.return_, 1) := by decide +kernel
theorem dX3_thrown_0 : decode cX3_thrown 0 = .ok (.aload_n 0, 1) := by decide +kernel
theorem dX3_thrown_1 : decode cX3_thrown 1 = .ok (.getfield 30, 3) := by decide +kernel
theorem dX3_thrown_4 : decode cX3_thrown 4 = .ok (.ireturn, 1) := by decide +kernel
theorem dX3_isThere_0 : decode cX3_isThere 0 = .ok (.aload_n 0, 1) := by decide +kernel
theorem dX3_isThere_1 : decode cX3_isThere 1 = .ok (.iload_n 1, 1) := by decide +kernel
theorem dX3_isThere_2 : decode cX3_isThere 2 = .ok (.ifCond .lt 15, 3) := by decide +kernel
theorem dX3_isThere_5 : decode cX3_isThere 5 = .ok (.iload_n 1, 1) := by decide +kernel
theorem dX3_isThere_6 : decode cX3_isThere 6 = .ok (.aload_n 0, 1) := by decide +kernel
theorem dX3_isThere_7 : decode cX3_isThere 7 = .ok (.getfield 33, 3) := by decide +kernel
theorem dX3_isThere_10 : decode cX3_isThere 10 = .ok (.if_icmp .ge 7, 3) := by decide +kernel
theorem dX3_isThere_13 : decode cX3_isThere 13 = .ok (.iconst 0, 1) := by decide +kernel
theorem dX3_isThere_14 : decode cX3_isThere 14 = .ok (.goto 4, 3) := by decide +kernel
theorem dX3_isThere_17 : decode cX3_isThere 17 = .ok (.iconst 1, 1) := by decide +kernel
theorem dX3_isThere_18 : decode cX3_isThere 18 = .ok (.putfield 30, 3) := by decide +kernel
theorem dX3_isThere_21 : decode cX3_isThere 21 = .ok (.aload_n 0, 1) := by decide +kernel
theorem dX3_isThere_22 : decode cX3_isThere 22 = .ok (.getfield 30, 3) := by decide +kernel
theorem dX3_isThere_25 : decode cX3_isThere 25 = .ok (.ifCond .ne 7, 3) := by decide +kernel
theorem dX3_isThere_28 : decode cX3_isThere 28 = .ok (.iconst 1, 1) := by decide +kernel
theorem dX3_isThere_29 : decode cX3_isThere 29 = .ok (.goto 4, 3) := by decide +kernel
theorem dX3_isThere_32 : decode cX3_isThere 32 = .ok (.iconst 0, 1) := by decide +kernel
theorem dX3_isThere_33 : decode cX3_isThere 33 = .ok (.ireturn, 1) := by decide +kernel
theorem dX3_isEmpty_0 : decode cX3_isEmpty 0 = .ok (.aload_n 0, 1) := by decide +kernel
theorem dX3_isEmpty_1 : decode cX3_isEmpty 1 = .ok (.getfield 16, 3) := by decide +kernel
theorem dX3_isEmpty_4 : decode cX3_isEmpty 4 = .ok (.iconst 0, 1) := by decide +kernel
theorem dX3_isEmpty_5 : decode cX3_isEmpty 5 = .ok (.iload_n 1, 1) := by decide +kernel
theorem dX3_isEmpty_6 : decode cX3_isEmpty 6 = .ok (.iadd, 1) := by decide +kernel
theorem dX3_isEmpty_7 : decode cX3_isEmpty 7 = .ok (.daload, 1) := by decide +kernel
theorem dX3_isEmpty_8 : decode cX3_isEmpty 8 = .ok (.dconst 0, 1) := by decide +kernel
theorem dX3_isEmpty_9 : decode cX3_isEmpty 9 = .ok (.dcmp .g, 1) := by decide +kernel
theorem dX3_isEmpty_10 : decode cX3_isEmpty 10 = .ok (.ifCond .gt 7, 3) := by decide +kernel
theorem dX3_isEmpty_13 : decode cX3_isEmpty 13 = .ok (.iconst 1, 1) := by decide +kernel
theorem dX3_isEmpty_14 : decode cX3_isEmpty 14 = .ok (.goto 4, 3) := by decide +kernel
theorem dX3_isEmpty_17 : decode cX3_isEmpty 17 = .ok (.iconst 0, 1) := by decide +kernel
theorem dX3_isEmpty_18 : decode cX3_isEmpty 18 = .ok (.ireturn, 1) := by decide +kernel
theorem dX3_lesser_0 : decode cX3_lesser 0 = .ok (.dload_n 0, 1) := by decide +kernel
theorem dX3_lesser_1 : decode cX3_lesser 1 = .ok (.dload_n 2, 1) := by decide +kernel
theorem dX3_lesser_2 : decode cX3_lesser 2 = .ok (.dcmp .g, 1) := by decide +kernel
theorem dX3_lesser_3 : decode cX3_lesser 3 = .ok (.ifCond .ge 7, 3) := by decide +kernel
theorem dX3_lesser_6 : decode cX3_lesser 6 = .ok (.dload_n 0, 1) := by decide +kernel
theorem dX3_lesser_7 : decode cX3_lesser 7 = .ok (.goto 4, 3) := by decide +kernel
theorem dX3_lesser_10 : decode cX3_lesser 10 = .ok (.dload_n 2, 1) := by decide +kernel
theorem dX3_lesser_11 : decode cX3_lesser 11 = .ok (.dreturn, 1) := by decide +kernel
theorem dX3_mixes_0 : decode cX3_mixes 0 = .ok (.aload_n 0, 1) := by decide +kernel
theorem dX3_mixes_1 : decode cX3_mixes 1 = .ok (.getfield 16, 3) := by decide +kernel
theorem dX3_mixes_4 : decode cX3_mixes 4 = .ok (.iconst 0, 1) := by decide +kernel
theorem dX3_mixes_5 : decode cX3_mixes 5 = .ok (.iload_n 1, 1) := by decide +kernel
theorem dX3_mixes_6 : decode cX3_mixes 6 = .ok (.iadd, 1) := by decide +kernel
theorem dX3_mixes_7 : decode cX3_mixes 7 = .ok (.daload, 1) := by decide +kernel
theorem dX3_mixes_8 : decode cX3_mixes 8 = .ok (.dstore 7, 2) := by decide +kernel
theorem dX3_mixes_10 : decode cX3_mixes 10 = .ok (.aload_n 0, 1) := by decide +kernel
theorem dX3_mixes_11 : decode cX3_mixes 11 = .ok (.getfield 16, 3) := by decide +kernel
theorem dX3_mixes_14 : decode cX3_mixes 14 = .ok (.iload_n 2, 1) := by decide +kernel
theorem dX3_mixes_15 : decode cX3_mixes 15 = .ok (.iload_n 1, 1) := by decide +kernel
theorem dX3_mixes_16 : decode cX3_mixes 16 = .ok (.iadd, 1) := by decide +kernel
theorem dX3_mixes_17 : decode cX3_mixes 17 = .ok (.daload, 1) := by decide +kernel
theorem dX3_mixes_18 : decode cX3_mixes 18 = .ok (.dstore 9, 2) := by decide +kernel
theorem dX3_mixes_20 : decode cX3_mixes 20 = .ok (.aload_n 0, 1) := by decide +kernel
theorem dX3_mixes_21 : decode cX3_mixes 21 = .ok (.getfield 16, 3) := by decide +kernel
theorem dX3_mixes_24 : decode cX3_mixes 24 = .ok (.iload_n 2, 1) := by decide +kernel
theorem dX3_mixes_25 : decode cX3_mixes 25 = .ok (.iload_n 1, 1) := by decide +kernel
theorem dX3_mixes_26 : decode cX3_mixes 26 = .ok (.iadd, 1) := by decide +kernel
theorem dX3_mixes_27 : decode cX3_mixes 27 = .ok (.dload 7, 2) := by decide +kernel
theorem dX3_mixes_29 : decode cX3_mixes 29 = .ok (.dload 9, 2) := by decide +kernel
theorem dX3_mixes_31 : decode cX3_mixes 31 = .ok (.dmul, 1) := by decide +kernel
theorem dX3_mixes_32 : decode cX3_mixes 32 = .ok (.dload_n 3, 1) := by decide +kernel
theorem dX3_mixes_33 : decode cX3_mixes 33 = .ok (.dload 5, 2) := by decide +kernel
theorem dX3_mixes_35 : decode cX3_mixes 35 = .ok (.dmul, 1) := by decide +kernel
theorem dX3_mixes_36 : decode cX3_mixes 36 = .ok (.dadd, 1) := by decide +kernel
theorem dX3_mixes_37 : decode cX3_mixes 37 = .ok (.dload 7, 2) := by decide +kernel
theorem dX3_mixes_39 : decode cX3_mixes 39 = .ok (.dload_n 3, 1) := by decide +kernel
theorem dX3_mixes_40 : decode cX3_mixes 40 = .ok (.dadd, 1) := by decide +kernel
theorem dX3_mixes_41 : decode cX3_mixes 41 = .ok (.ddiv, 1) := by decide +kernel
theorem dX3_mixes_42 : decode cX3_mixes 42 = .ok (.dastore, 1) := by decide +kernel
theorem dX3_mixes_43 : decode cX3_mixes 43 = .ok (.return_, 1) := by decide +kernel
set_option maxRecDepth 20000 in
theorem ggX3_gets_X3_mixes : GoodIn wsX3_gets wsX3_mixes := goodIn_r _ [6, 1, 7, 8, 9, 10, 11, 12, 13, 14, 15, 16, 17, 18, 19] (by decide +kernel) (by decide +kernel)
set_option maxRecDepth 20000 in
theorem gX3_gets_X3_mixes : GoodIn wsX3_gets (wsV RX3 36 RX3 yX3_mixes wsX3_mixes) := goodIn_app (goodIn_of _ (by decide +kernel)) ggX3_gets_X3_mixes
theorem dX3_gets_0 : decode cX3_gets 0 = .ok (.dload_n 2, 1) := by decide +kernel
theorem dX3_gets_1 : decode cX3_gets 1 = .ok (.dconst 0, 1) := by decide +kernel
theorem dX3_gets_2 : decode cX3_gets 2 = .ok (.dcmp .l, 1) := by decide +kernel
theorem dX3_gets_3 : decode cX3_gets 3 = .ok (.ifCond .le 51, 3) := by decide +kernel
theorem dX3_gets_6 : decode cX3_gets 6 = .ok (.aload_n 0, 1) := by decide +kernel
theorem dX3_gets_7 : decode cX3_gets 7 = .ok (.iload_n 1, 1) := by decide +kernel
theorem dX3_gets_8 : decode cX3_gets 8 = .ok (.bipush 8, 2) := by decide +kernel
theorem dX3_gets_10 : decode cX3_gets 10 = .ok (.dload_n 2, 1) := by decide +kernel
theorem dX3_gets_11 : decode cX3_gets 11 = .ok (.dload 4, 2) := by decide +kernel
theorem dX3_gets_13 : decode cX3_gets 13 = .ok (.invokevirtual 36, 3) := by decide +kernel
theorem dX3_gets_16 : decode cX3_gets 16 = .ok (.aload_n 0, 1) := by decide +kernel
theorem dX3_gets_17 : decode cX3_gets 17 = .ok (.iload_n 1, 1) := by decide +kernel
theorem dX3_gets_18 : decode cX3_gets 18 = .ok (.bipush 16, 2) := by decide +kernel
theorem dX3_gets_20 : decode cX3_gets 20 = .ok (.dload_n 2, 1) := by decide +kernel
theorem dX3_gets_21 : decode cX3_gets 21 = .ok (.dload 6, 2) := by decide +kernel
theorem dX3_gets_23 : decode cX3_gets 23 = .ok (.invokevirtual 36, 3) := by decide +kernel
theorem dX3_gets_26 : decode cX3_gets 26 = .ok (.aload_n 0, 1) := by decide +kernel
theorem dX3_gets_27 : decode cX3_gets 27 = .ok (.iload_n 1, 1) := by decide +kernel
theorem dX3_gets_28 : decode cX3_gets 28 = .ok (.bipush 24, 2) := by decide +kernel
theorem dX3_gets_30 : decode cX3_gets 30 = .ok (.dload_n 2, 1) := by decide +kernel
theorem dX3_gets_31 : decode cX3_gets 31 = .ok (.dload 8, 2) := by decide +kernel
theorem dX3_gets_33 : decode cX3_gets 33 = .ok (.invokevirtual 36, 3) := by decide +kernel
theorem dX3_gets_36 : decode cX3_gets 36 = .ok (.aload_n 0, 1) := by decide +kernel
theorem dX3_gets_37 : decode cX3_gets 37 = .ok (.getfield 16, 3) := by decide +kernel
theorem dX3_gets_40 : decode cX3_gets 40 = .ok (.iconst 0, 1) := by decide +kernel
theorem dX3_gets_41 : decode cX3_gets 41 = .ok (.iload_n 1, 1) := by decide +kernel
theorem dX3_gets_42 : decode cX3_gets 42 = .ok (.iadd, 1) := by decide +kernel
theorem dX3_gets_43 : decode cX3_gets 43 = .ok (.aload_n 0, 1) := by decide +kernel
theorem dX3_gets_44 : decode cX3_gets 44 = .ok (.getfield 16, 3) := by decide +kernel
theorem dX3_gets_47 : decode cX3_gets 47 = .ok (.iconst 0, 1) := by decide +kernel
theorem dX3_gets_48 : decode cX3_gets 48 = .ok (.iload_n 1, 1) := by decide +kernel
theorem dX3_gets_49 : decode cX3_gets 49 = .ok (.iadd, 1) := by decide +kernel
theorem dX3_gets_50 : decode cX3_gets 50 = .ok (.daload, 1) := by decide +kernel
theorem dX3_gets_51 : decode cX3_gets 51 = .ok (.dload_n 2, 1) := by decide +kernel
theorem dX3_gets_52 : decode cX3_gets 52 = .ok (.dadd, 1) := by decide +kernel
theorem dX3_gets_53 : decode cX3_gets 53 = .ok (.dastore, 1) := by decide +kernel
theorem dX3_gets_54 : decode cX3_gets 54 = .ok (.return_, 1) := by decide +kernel
set_option maxRecDepth 20000 in
theorem ggX3_pours_X3_gets : GoodIn wsX3_pours wsX3_gets := goodIn_r _ [6, 7, 8, 9, 10, 5, 11, 12, 13, 14, 15, 16, 17, 18, 19, 20, 21, 22, 23, 24] (by decide +kernel) (by decide +kernel)
set_option maxRecDepth 20000 in
theorem gX3_pours_X3_gets : GoodIn wsX3_pours (wsV RX3 42 RX3 yX3_gets wsX3_gets) := goodIn_app (goodIn_of _ (by decide +kernel)) ggX3_pours_X3_gets
theorem dX3_pours_0 : decode cX3_pours 0 = .ok (.aload_n 0, 1) := by decide +kernel
theorem dX3_pours_1 : decode cX3_pours 1 = .ok (.iconst 0, 1) := by decide +kernel
theorem dX3_pours_2 : decode cX3_pours 2 = .ok (.dload_n 1, 1) := by decide +kernel
theorem dX3_pours_3 : decode cX3_pours 3 = .ok (.dconst 0, 1) := by decide +kernel
theorem dX3_pours_4 : decode cX3_pours 4 = .ok (.dconst 1, 1) := by decide +kernel
theorem dX3_pours_5 : decode cX3_pours 5 = .ok (.ldc2_w 40, 3) := by decide +kernel
theorem dX3_pours_8 : decode cX3_pours 8 = .ok (.invokevirtual 42, 3) := by decide +kernel
theorem dX3_pours_11 : decode cX3_pours 11 = .ok (.dload_n 1, 1) := by decide +kernel
theorem dX3_pours_12 : decode cX3_pours 12 = .ok (.dconst 0, 1) := by decide +kernel
theorem dX3_pours_13 : decode cX3_pours 13 = .ok (.dcmp .l, 1) := by decide +kernel
theorem dX3_pours_14 : decode cX3_pours 14 = .ok (.ifCond .le 7, 3) := by decide +kernel
theorem dX3_pours_17 : decode cX3_pours 17 = .ok (.dload_n 1, 1) := by decide +kernel
theorem dX3_pours_18 : decode cX3_pours 18 = .ok (.goto 4, 3) := by decide +kernel
theorem dX3_pours_21 : decode cX3_pours 21 = .ok (.dconst 0, 1) := by decide +kernel
theorem dX3_pours_22 : decode cX3_pours 22 = .ok (.dreturn, 1) := by decide +kernel
theorem dX3_room_0 : decode cX3_room 0 = .ok (.aload_n 0, 1) := by decide +kernel
theorem dX3_room_1 : decode cX3_room 1 = .ok (.getfield 13, 3) := by decide +kernel
theorem dX3_room_4 : decode cX3_room 4 = .ok (.iconst 0, 1) := by decide +kernel
theorem dX3_room_5 : decode cX3_room 5 = .ok (.iaload, 1) := by decide +kernel
theorem dX3_room_6 : decode cX3_room 6 = .ok (.i2d, 1) := by decide +kernel
theorem dX3_room_7 : decode cX3_room 7 = .ok (.aload_n 0, 1) := by decide +kernel
theorem dX3_room_8 : decode cX3_room 8 = .ok (.getfield 16, 3) := by decide +kernel
theorem dX3_room_11 : decode cX3_room 11 = .ok (.iconst 0, 1) := by decide +kernel
theorem dX3_room_12 : decode cX3_room 12 = .ok (.daload, 1) := by decide +kernel
theorem dX3_room_13 : decode cX3_room 13 = .ok (.dsub, 1) := by decide +kernel
theorem dX3_room_14 : decode cX3_room 14 = .ok (.dreturn, 1) := by decide +kernel
set_option maxRecDepth 20000 in
theorem ggX3_topsUp_X3_lesser : GoodIn wsX3_topsUp wsX3_lesser := goodIn_r _ [9] (by decide +kernel) (by decide +kernel)
set_option maxRecDepth 20000 in
theorem gX3_topsUp_X3_lesser : GoodIn wsX3_topsUp (va_wsS RX3 50 yX3_lesser wsX3_lesser) := goodIn_app (goodIn_of _ (by decide +kernel)) ggX3_topsUp_X3_lesser
set_option maxRecDepth 20000 in
theorem ggX3_topsUp_X3_gets : GoodIn wsX3_topsUp wsX3_gets := goodIn_r _ [13, 4, 14, 15, 16, 8, 17, 18, 19, 20, 21, 22, 23, 24, 25, 26, 27, 28, 29, 30] (by decide +kernel) (by decide +kernel)
set_option maxRecDepth 20000 in
theorem gX3_topsUp_X3_gets : GoodIn wsX3_topsUp (wsV RX3 42 RX3 yX3_gets wsX3_gets) := goodIn_app (goodIn_of _ (by decide +kernel)) ggX3_topsUp_X3_gets
theorem dX3_topsUp_0 : decode cX3_topsUp 0 = .ok (.dconst 0, 1) := by decide +kernel
theorem dX3_topsUp_1 : decode cX3_topsUp 1 = .ok (.dstore_n 1, 1) := by decide +kernel
theorem dX3_topsUp_2 : decode cX3_topsUp 2 = .ok (.aload_n 0, 1) := by decide +kernel
theorem dX3_topsUp_3 : decode cX3_topsUp 3 = .ok (.getfield 33, 3) := by decide +kernel
theorem dX3_topsUp_6 : decode cX3_topsUp 6 = .ok (.iconst 1, 1) := by decide +kernel
theorem dX3_topsUp_7 : decode cX3_topsUp 7 = .ok (.isub, 1) := by decide +kernel
theorem dX3_topsUp_8 : decode cX3_topsUp 8 = .ok (.istore_n 3, 1) := by decide +kernel
theorem dX3_topsUp_9 : decode cX3_topsUp 9 = .ok (.iload_n 3, 1) := by decide +kernel
theorem dX3_topsUp_10 : decode cX3_topsUp 10 = .ok (.ifCond .le 141, 3) := by decide +kernel
theorem dX3_topsUp_13 : decode cX3_topsUp 13 = .ok (.ldc2_w 46, 3) := by decide +kernel
theorem dX3_topsUp_16 : decode cX3_topsUp 16 = .ok (.aload_n 0, 1) := by decide +kernel
theorem dX3_topsUp_17 : decode cX3_topsUp 17 = .ok (.getfield 13, 3) := by decide +kernel
theorem dX3_topsUp_20 : decode cX3_topsUp 20 = .ok (.iload_n 3, 1) := by decide +kernel
theorem dX3_topsUp_21 : decode cX3_topsUp 21 = .ok (.iaload, 1) := by decide +kernel
theorem dX3_topsUp_22 : decode cX3_topsUp 22 = .ok (.i2d, 1) := by decide +kernel
theorem dX3_topsUp_23 : decode cX3_topsUp 23 = .ok (.dmul, 1) := by decide +kernel
theorem dX3_topsUp_24 : decode cX3_topsUp 24 = .ok (.dstore 4, 2) := by decide +kernel
theorem dX3_topsUp_26 : decode cX3_topsUp 26 = .ok (.aload_n 0, 1) := by decide +kernel
theorem dX3_topsUp_27 : decode cX3_topsUp 27 = .ok (.getfield 16, 3) := by decide +kernel
theorem dX3_topsUp_30 : decode cX3_topsUp 30 = .ok (.iconst 0, 1) := by decide +kernel
theorem dX3_topsUp_31 : decode cX3_topsUp 31 = .ok (.iload_n 3, 1) := by decide +kernel
theorem dX3_topsUp_32 : decode cX3_topsUp 32 = .ok (.iadd, 1) := by decide +kernel
theorem dX3_topsUp_33 : decode cX3_topsUp 33 = .ok (.daload, 1) := by decide +kernel
theorem dX3_topsUp_34 : decode cX3_topsUp 34 = .ok (.dload 4, 2) := by decide +kernel
theorem dX3_topsUp_36 : decode cX3_topsUp 36 = .ok (.dcmp .g, 1) := by decide +kernel
theorem dX3_topsUp_37 : decode cX3_topsUp 37 = .ok (.ifCond .ge 108, 3) := by decide +kernel
theorem dX3_topsUp_40 : decode cX3_topsUp 40 = .ok (.dload 4, 2) := by decide +kernel
theorem dX3_topsUp_42 : decode cX3_topsUp 42 = .ok (.aload_n 0, 1) := by decide +kernel
theorem dX3_topsUp_43 : decode cX3_topsUp 43 = .ok (.getfield 16, 3) := by decide +kernel
theorem dX3_topsUp_46 : decode cX3_topsUp 46 = .ok (.iconst 0, 1) := by decide +kernel
theorem dX3_topsUp_47 : decode cX3_topsUp 47 = .ok (.iload_n 3, 1) := by decide +kernel
theorem dX3_topsUp_48 : decode cX3_topsUp 48 = .ok (.iadd, 1) := by decide +kernel
theorem dX3_topsUp_49 : decode cX3_topsUp 49 = .ok (.daload, 1) := by decide +kernel
theorem dX3_topsUp_50 : decode cX3_topsUp 50 = .ok (.dsub, 1) := by decide +kernel
theorem dX3_topsUp_51 : decode cX3_topsUp 51 = .ok (.ldc2_w 48, 3) := by decide +kernel
theorem dX3_topsUp_54 : decode cX3_topsUp 54 = .ok (.aload_n 0, 1) := by decide +kernel
theorem dX3_topsUp_55 : decode cX3_topsUp 55 = .ok (.getfield 16, 3) := by decide +kernel
theorem dX3_topsUp_58 : decode cX3_topsUp 58 = .ok (.iconst 0, 1) := by decide +kernel
theorem dX3_topsUp_59 : decode cX3_topsUp 59 = .ok (.iload_n 3, 1) := by decide +kernel
theorem dX3_topsUp_60 : decode cX3_topsUp 60 = .ok (.iadd, 1) := by decide +kernel
theorem dX3_topsUp_61 : decode cX3_topsUp 61 = .ok (.iconst 1, 1) := by decide +kernel
theorem dX3_topsUp_62 : decode cX3_topsUp 62 = .ok (.isub, 1) := by decide +kernel
theorem dX3_topsUp_63 : decode cX3_topsUp 63 = .ok (.daload, 1) := by decide +kernel
theorem dX3_topsUp_64 : decode cX3_topsUp 64 = .ok (.dmul, 1) := by decide +kernel
theorem dX3_topsUp_65 : decode cX3_topsUp 65 = .ok (.invokestatic 50, 3) := by decide +kernel
theorem dX3_topsUp_68 : decode cX3_topsUp 68 = .ok (.dstore 6, 2) := by decide +kernel
theorem dX3_topsUp_70 : decode cX3_topsUp 70 = .ok (.dload 6, 2) := by decide +kernel
theorem dX3_topsUp_72 : decode cX3_topsUp 72 = .ok (.dconst 0, 1) := by decide +kernel
theorem dX3_topsUp_73 : decode cX3_topsUp 73 = .ok (.dcmp .l, 1) := by decide +kernel
theorem dX3_topsUp_74 : decode cX3_topsUp 74 = .ok (.ifCond .le 71, 3) := by decide +kernel
theorem dX3_topsUp_77 : decode cX3_topsUp 77 = .ok (.aload_n 0, 1) := by decide +kernel
theorem dX3_topsUp_78 : decode cX3_topsUp 78 = .ok (.iload_n 3, 1) := by decide +kernel
theorem dX3_topsUp_79 : decode cX3_topsUp 79 = .ok (.dload 6, 2) := by decide +kernel
theorem dX3_topsUp_81 : decode cX3_topsUp 81 = .ok (.aload_n 0, 1) := by decide +kernel
theorem dX3_topsUp_82 : decode cX3_topsUp 82 = .ok (.getfield 16, 3) := by decide +kernel
theorem dX3_topsUp_85 : decode cX3_topsUp 85 = .ok (.bipush 8, 2) := by decide +kernel
theorem dX3_topsUp_87 : decode cX3_topsUp 87 = .ok (.iload_n 3, 1) := by decide +kernel
theorem dX3_topsUp_88 : decode cX3_topsUp 88 = .ok (.iadd, 1) := by decide +kernel
theorem dX3_topsUp_89 : decode cX3_topsUp 89 = .ok (.iconst 1, 1) := by decide +kernel
theorem dX3_topsUp_90 : decode cX3_topsUp 90 = .ok (.isub, 1) := by decide +kernel
theorem dX3_topsUp_91 : decode cX3_topsUp 91 = .ok (.daload, 1) := by decide +kernel
theorem dX3_topsUp_92 : decode cX3_topsUp 92 = .ok (.aload_n 0, 1) := by decide +kernel
theorem dX3_topsUp_93 : decode cX3_topsUp 93 = .ok (.getfield 16, 3) := by decide +kernel
theorem dX3_topsUp_96 : decode cX3_topsUp 96 = .ok (.bipush 16, 2) := by decide +kernel
theorem dX3_topsUp_98 : decode cX3_topsUp 98 = .ok (.iload_n 3, 1) := by decide +kernel
theorem dX3_topsUp_99 : decode cX3_topsUp 99 = .ok (.iadd, 1) := by decide +kernel
theorem dX3_topsUp_100 : decode cX3_topsUp 100 = .ok (.iconst 1, 1) := by decide +kernel
theorem dX3_topsUp_101 : decode cX3_topsUp 101 = .ok (.isub, 1) := by decide +kernel
theorem dX3_topsUp_102 : decode cX3_topsUp 102 = .ok (.daload, 1) := by decide +kernel
theorem dX3_topsUp_103 : decode cX3_topsUp 103 = .ok (.aload_n 0, 1) := by decide +kernel
theorem dX3_topsUp_104 : decode cX3_topsUp 104 = .ok (.getfield 16, 3) := by decide +kernel
theorem dX3_topsUp_107 : decode cX3_topsUp 107 = .ok (.bipush 24, 2) := by decide +kernel
theorem dX3_topsUp_109 : decode cX3_topsUp 109 = .ok (.iload_n 3, 1) := by decide +kernel
theorem dX3_topsUp_110 : decode cX3_topsUp 110 = .ok (.iadd, 1) := by decide +kernel
theorem dX3_topsUp_111 : decode cX3_topsUp 111 = .ok (.iconst 1, 1) := by decide +kernel
theorem dX3_topsUp_112 : decode cX3_topsUp 112 = .ok (.isub, 1) := by decide +kernel
theorem dX3_topsUp_113 : decode cX3_topsUp 113 = .ok (.daload, 1) := by decide +kernel
theorem dX3_topsUp_114 : decode cX3_topsUp 114 = .ok (.invokevirtual 42, 3) := by decide +kernel
theorem dX3_topsUp_117 : decode cX3_topsUp 117 = .ok (.aload_n 0, 1) := by decide +kernel
theorem dX3_topsUp_118 : decode cX3_topsUp 118 = .ok (.getfield 16, 3) := by decide +kernel
theorem dX3_topsUp_121 : decode cX3_topsUp 121 = .ok (.iconst 0, 1) := by decide +kernel
theorem dX3_topsUp_122 : decode cX3_topsUp 122 = .ok (.iload_n 3, 1) := by decide +kernel
theorem dX3_topsUp_123 : decode cX3_topsUp 123 = .ok (.iadd, 1) := by decide +kernel
theorem dX3_topsUp_124 : decode cX3_topsUp 124 = .ok (.iconst 1, 1) := by decide +kernel
theorem dX3_topsUp_125 : decode cX3_topsUp 125 = .ok (.isub, 1) := by decide +kernel
theorem dX3_topsUp_126 : decode cX3_topsUp 126 = .ok (.aload_n 0, 1) := by decide +kernel
theorem dX3_topsUp_127 : decode cX3_topsUp 127 = .ok (.getfield 16, 3) := by decide +kernel
theorem dX3_topsUp_130 : decode cX3_topsUp 130 = .ok (.iconst 0, 1) := by decide +kernel
theorem dX3_topsUp_131 : decode cX3_topsUp 131 = .ok (.iload_n 3, 1) := by decide +kernel
theorem dX3_topsUp_132 : decode cX3_topsUp 132 = .ok (.iadd, 1) := by decide +kernel
theorem dX3_topsUp_133 : decode cX3_topsUp 133 = .ok (.iconst 1, 1) := by decide +kernel
theorem dX3_topsUp_134 : decode cX3_topsUp 134 = .ok (.isub, 1) := by decide +kernel
theorem dX3_topsUp_135 : decode cX3_topsUp 135 = .ok (.daload, 1) := by decide +kernel
theorem dX3_topsUp_136 : decode cX3_topsUp 136 = .ok (.dload 6, 2) := by decide +kernel
theorem dX3_topsUp_138 : decode cX3_topsUp 138 = .ok (.dsub, 1) := by decide +kernel
theorem dX3_topsUp_139 : decode cX3_topsUp 139 = .ok (.dastore, 1) := by decide +kernel
theorem dX3_topsUp_140 : decode cX3_topsUp 140 = .ok (.dload_n 1, 1) := by decide +kernel
theorem dX3_topsUp_141 : decode cX3_topsUp 141 = .ok (.dload 6, 2) := by decide +kernel
theorem dX3_topsUp_143 : decode cX3_topsUp 143 = .ok (.dadd, 1) := by decide +kernel
theorem dX3_topsUp_144 : decode cX3_topsUp 144 = .ok (.dstore_n 1, 1) := by decide +kernel
theorem dX3_topsUp_145 : decode cX3_topsUp 145 = .ok (.iinc 3 (-1), 3) := by decide +kernel
theorem dX3_topsUp_148 : decode cX3_topsUp 148 = .ok (.goto (-139), 3) := by decide +kernel
theorem dX3_topsUp_151 : decode cX3_topsUp 151 = .ok (.dload_n 1, 1) := by decide +kernel
theorem dX3_topsUp_152 : decode cX3_topsUp 152 = .ok (.dreturn, 1) := by decide +kernel
theorem dX3_share_0 : decode cX3_share 0 = .ok (.iload_n 0, 1) := by decide +kernel
theorem dX3_share_1 : decode cX3_share 1 = .ok (.ifCond .ne 9, 3) := by decide +kernel
theorem dX3_share_4 : decode cX3_share 4 = .ok (.ldc2_w 54, 3) := by decide +kernel
theorem dX3_share_7 : decode cX3_share 7 = .ok (.goto 28, 3) := by decide +kernel
theorem dX3_share_10 : decode cX3_share 10 = .ok (.iload_n 0, 1) := by decide +kernel
theorem dX3_share_11 : decode cX3_share 11 = .ok (.iconst 1, 1) := by decide +kernel
theorem dX3_share_12 : decode cX3_share 12 = .ok (.if_icmp .ne 9, 3) := by decide +kernel
theorem dX3_share_15 : decode cX3_share 15 = .ok (.ldc2_w 56, 3) := by decide +kernel
theorem dX3_share_18 : decode cX3_share 18 = .ok (.goto 17, 3) := by decide +kernel
theorem dX3_share_21 : decode cX3_share 21 = .ok (.iload_n 0, 1) := by decide +kernel
theorem dX3_share_22 : decode cX3_share 22 = .ok (.iconst 2, 1) := by decide +kernel
theorem dX3_share_23 : decode cX3_share 23 = .ok (.if_icmp .ne 9, 3) := by decide +kernel
theorem dX3_share_26 : decode cX3_share 26 = .ok (.ldc2_w 58, 3) := by decide +kernel
theorem dX3_share_29 : decode cX3_share 29 = .ok (.goto 6, 3) := by decide +kernel
theorem dX3_share_32 : decode cX3_share 32 = .ok (.ldc2_w 60, 3) := by decide +kernel
theorem dX3_share_35 : decode cX3_share 35 = .ok (.dreturn, 1) := by decide +kernel
theorem dX3_draught_0 : decode cX3_draught 0 = .ok (.dconst 1, 1) := by decide +kernel
theorem dX3_draught_1 : decode cX3_draught 1 = .ok (.ldc2_w 62, 3) := by decide +kernel
theorem dX3_draught_4 : decode cX3_draught 4 = .ok (.aload_n 0, 1) := by decide +kernel
theorem dX3_draught_5 : decode cX3_draught 5 = .ok (.getfield 23, 3) := by decide +kernel
theorem dX3_draught_8 : decode cX3_draught 8 = .ok (.bipush 18, 2) := by decide +kernel
theorem dX3_draught_10 : decode cX3_draught 10 = .ok (.isub, 1) := by decide +kernel
theorem dX3_draught_11 : decode cX3_draught 11 = .ok (.i2d, 1) := by decide +kernel
theorem dX3_draught_12 : decode cX3_draught 12 = .ok (.dmul, 1) := by decide +kernel
theorem dX3_draught_13 : decode cX3_draught 13 = .ok (.dadd, 1) := by decide +kernel
theorem dX3_draught_14 : decode cX3_draught 14 = .ok (.dstore_n 1, 1) := by decide +kernel
theorem dX3_draught_15 : decode cX3_draught 15 = .ok (.dload_n 1, 1) := by decide +kernel
theorem dX3_draught_16 : decode cX3_draught 16 = .ok (.ldc2_w 64, 3) := by decide +kernel
theorem dX3_draught_19 : decode cX3_draught 19 = .ok (.dcmp .g, 1) := by decide +kernel
theorem dX3_draught_20 : decode cX3_draught 20 = .ok (.ifCond .ge 9, 3) := by decide +kernel
theorem dX3_draught_23 : decode cX3_draught 23 = .ok (.ldc2_w 64, 3) := by decide +kernel
theorem dX3_draught_26 : decode cX3_draught 26 = .ok (.goto 4, 3) := by decide +kernel
theorem dX3_draught_29 : decode cX3_draught 29 = .ok (.dload_n 1, 1) := by decide +kernel
theorem dX3_draught_30 : decode cX3_draught 30 = .ok (.dreturn, 1) := by decide +kernel
set_option maxRecDepth 20000 in
theorem ggX3_ages_X3_share : GoodIn wsX3_ages wsX3_share := goodIn_r _ [13, 14, 15, 16, 17] (by decide +kernel) (by decide +kernel)
set_option maxRecDepth 20000 in
theorem gX3_ages_X3_share : GoodIn wsX3_ages (va_wsS RX3 66 yX3_share wsX3_share) := goodIn_app (goodIn_of _ (by decide +kernel)) ggX3_ages_X3_share
set_option maxRecDepth 20000 in
theorem ggX3_ages_X3_draught : GoodIn wsX3_ages wsX3_draught := goodIn_r _ [21, 22, 23, 24, 28, 29, 30, 31, 32, 33, 34, 35, 36, 37, 38, 39, 40] (by decide +kernel) (by decide +kernel)
set_option maxRecDepth 20000 in
theorem gX3_ages_X3_draught : GoodIn wsX3_ages (wsV RX3 70 RX3 yX3_draught wsX3_draught) := goodIn_app (goodIn_of _ (by decide +kernel)) ggX3_ages_X3_draught
set_option maxRecDepth 20000 in
theorem ggX3_ages_X3_lesser : GoodIn wsX3_ages wsX3_lesser := goodIn_r _ [27] (by decide +kernel) (by decide +kernel)
set_option maxRecDepth 20000 in
theorem gX3_ages_X3_lesser : GoodIn wsX3_ages (va_wsS RX3 50 yX3_lesser wsX3_lesser) := goodIn_app (goodIn_of _ (by decide +kernel)) ggX3_ages_X3_lesser
theorem dX3_ages_0 : decode cX3_ages 0 = .ok (.aload_n 0, 1) := by decide +kernel
theorem dX3_ages_1 : decode cX3_ages 1 = .ok (.getfield 16, 3) := by decide +kernel
theorem dX3_ages_4 : decode cX3_ages 4 = .ok (.iconst 0, 1) := by decide +kernel
theorem dX3_ages_5 : decode cX3_ages 5 = .ok (.iload_n 1, 1) := by decide +kernel
theorem dX3_ages_6 : decode cX3_ages 6 = .ok (.iadd, 1) := by decide +kernel
theorem dX3_ages_7 : decode cX3_ages 7 = .ok (.daload, 1) := by decide +kernel
theorem dX3_ages_8 : decode cX3_ages 8 = .ok (.dstore_n 2, 1) := by decide +kernel
theorem dX3_ages_9 : decode cX3_ages 9 = .ok (.dload_n 2, 1) := by decide +kernel
theorem dX3_ages_10 : decode cX3_ages 10 = .ok (.aload_n 0, 1) := by decide +kernel
theorem dX3_ages_11 : decode cX3_ages 11 = .ok (.getfield 7, 3) := by decide +kernel
theorem dX3_ages_14 : decode cX3_ages 14 = .ok (.iload_n 1, 1) := by decide +kernel
theorem dX3_ages_15 : decode cX3_ages 15 = .ok (.iaload, 1) := by decide +kernel
theorem dX3_ages_16 : decode cX3_ages 16 = .ok (.invokestatic 66, 3) := by decide +kernel
theorem dX3_ages_19 : decode cX3_ages 19 = .ok (.dmul, 1) := by decide +kernel
theorem dX3_ages_20 : decode cX3_ages 20 = .ok (.aload_n 0, 1) := by decide +kernel
theorem dX3_ages_21 : decode cX3_ages 21 = .ok (.invokevirtual 70, 3) := by decide +kernel
theorem dX3_ages_24 : decode cX3_ages 24 = .ok (.dmul, 1) := by decide +kernel
theorem dX3_ages_25 : decode cX3_ages 25 = .ok (.dstore 4, 2) := by decide +kernel
theorem dX3_ages_27 : decode cX3_ages 27 = .ok (.dload_n 2, 1) := by decide +kernel
theorem dX3_ages_28 : decode cX3_ages 28 = .ok (.dload 4, 2) := by decide +kernel
theorem dX3_ages_30 : decode cX3_ages 30 = .ok (.dsub, 1) := by decide +kernel
theorem dX3_ages_31 : decode cX3_ages 31 = .ok (.dstore 6, 2) := by decide +kernel
theorem dX3_ages_33 : decode cX3_ages 33 = .ok (.aload_n 0, 1) := by decide +kernel
theorem dX3_ages_34 : decode cX3_ages 34 = .ok (.getfield 16, 3) := by decide +kernel
theorem dX3_ages_37 : decode cX3_ages 37 = .ok (.iconst 0, 1) := by decide +kernel
theorem dX3_ages_38 : decode cX3_ages 38 = .ok (.iload_n 1, 1) := by decide +kernel
theorem dX3_ages_39 : decode cX3_ages 39 = .ok (.iadd, 1) := by decide +kernel
theorem dX3_ages_40 : decode cX3_ages 40 = .ok (.dload 6, 2) := by decide +kernel
theorem dX3_ages_42 : decode cX3_ages 42 = .ok (.dastore, 1) := by decide +kernel
theorem dX3_ages_43 : decode cX3_ages 43 = .ok (.aload_n 0, 1) := by decide +kernel
theorem dX3_ages_44 : decode cX3_ages 44 = .ok (.getfield 16, 3) := by decide +kernel
theorem dX3_ages_47 : decode cX3_ages 47 = .ok (.bipush 24, 2) := by decide +kernel
theorem dX3_ages_49 : decode cX3_ages 49 = .ok (.iload_n 1, 1) := by decide +kernel
theorem dX3_ages_50 : decode cX3_ages 50 = .ok (.iadd, 1) := by decide +kernel
theorem dX3_ages_51 : decode cX3_ages 51 = .ok (.aload_n 0, 1) := by decide +kernel
theorem dX3_ages_52 : decode cX3_ages 52 = .ok (.getfield 16, 3) := by decide +kernel
theorem dX3_ages_55 : decode cX3_ages 55 = .ok (.bipush 24, 2) := by decide +kernel
theorem dX3_ages_57 : decode cX3_ages 57 = .ok (.iload_n 1, 1) := by decide +kernel
theorem dX3_ages_58 : decode cX3_ages 58 = .ok (.iadd, 1) := by decide +kernel
theorem dX3_ages_59 : decode cX3_ages 59 = .ok (.daload, 1) := by decide +kernel
theorem dX3_ages_60 : decode cX3_ages 60 = .ok (.dload_n 2, 1) := by decide +kernel
theorem dX3_ages_61 : decode cX3_ages 61 = .ok (.dmul, 1) := by decide +kernel
theorem dX3_ages_62 : decode cX3_ages 62 = .ok (.dload 6, 2) := by decide +kernel
theorem dX3_ages_64 : decode cX3_ages 64 = .ok (.ddiv, 1) := by decide +kernel
theorem dX3_ages_65 : decode cX3_ages 65 = .ok (.ldc2_w 74, 3) := by decide +kernel
theorem dX3_ages_68 : decode cX3_ages 68 = .ok (.invokestatic 50, 3) := by decide +kernel
theorem dX3_ages_71 : decode cX3_ages 71 = .ok (.dastore, 1) := by decide +kernel
theorem dX3_ages_72 : decode cX3_ages 72 = .ok (.aload_n 0, 1) := by decide +kernel
theorem dX3_ages_73 : decode cX3_ages 73 = .ok (.getfield 16, 3) := by decide +kernel
theorem dX3_ages_76 : decode cX3_ages 76 = .ok (.bipush 24, 2) := by decide +kernel
theorem dX3_ages_78 : decode cX3_ages 78 = .ok (.iload_n 1, 1) := by decide +kernel
theorem dX3_ages_79 : decode cX3_ages 79 = .ok (.iadd, 1) := by decide +kernel
theorem dX3_ages_80 : decode cX3_ages 80 = .ok (.daload, 1) := by decide +kernel
theorem dX3_ages_81 : decode cX3_ages 81 = .ok (.ldc2_w 76, 3) := by decide +kernel
theorem dX3_ages_84 : decode cX3_ages 84 = .ok (.dcmp .l, 1) := by decide +kernel
theorem dX3_ages_85 : decode cX3_ages 85 = .ok (.ifCond .le 66, 3) := by decide +kernel
theorem dX3_ages_88 : decode cX3_ages 88 = .ok (.aload_n 0, 1) := by decide +kernel
theorem dX3_ages_89 : decode cX3_ages 89 = .ok (.getfield 16, 3) := by decide +kernel
theorem dX3_ages_92 : decode cX3_ages 92 = .ok (.bipush 16, 2) := by decide +kernel
theorem dX3_ages_94 : decode cX3_ages 94 = .ok (.iload_n 1, 1) := by decide +kernel
theorem dX3_ages_95 : decode cX3_ages 95 = .ok (.iadd, 1) := by decide +kernel
theorem dX3_ages_96 : decode cX3_ages 96 = .ok (.daload, 1) := by decide +kernel
theorem dX3_ages_97 : decode cX3_ages 97 = .ok (.ldc2_w 78, 3) := by decide +kernel
theorem dX3_ages_100 : decode cX3_ages 100 = .ok (.dcmp .g, 1) := by decide +kernel
theorem dX3_ages_101 : decode cX3_ages 101 = .ok (.ifCond .ge 50, 3) := by decide +kernel
theorem dX3_ages_104 : decode cX3_ages 104 = .ok (.aload_n 0, 1) := by decide +kernel
theorem dX3_ages_105 : decode cX3_ages 105 = .ok (.getfield 16, 3) := by decide +kernel
theorem dX3_ages_108 : decode cX3_ages 108 = .ok (.bipush 16, 2) := by decide +kernel
theorem dX3_ages_110 : decode cX3_ages 110 = .ok (.iload_n 1, 1) := by decide +kernel
theorem dX3_ages_111 : decode cX3_ages 111 = .ok (.iadd, 1) := by decide +kernel
theorem dX3_ages_112 : decode cX3_ages 112 = .ok (.aload_n 0, 1) := by decide +kernel
theorem dX3_ages_113 : decode cX3_ages 113 = .ok (.getfield 16, 3) := by decide +kernel
theorem dX3_ages_116 : decode cX3_ages 116 = .ok (.bipush 16, 2) := by decide +kernel
theorem dX3_ages_118 : decode cX3_ages 118 = .ok (.iload_n 1, 1) := by decide +kernel
theorem dX3_ages_119 : decode cX3_ages 119 = .ok (.iadd, 1) := by decide +kernel
theorem dX3_ages_120 : decode cX3_ages 120 = .ok (.daload, 1) := by decide +kernel
theorem dX3_ages_121 : decode cX3_ages 121 = .ok (.ldc2_w 80, 3) := by decide +kernel
theorem dX3_ages_124 : decode cX3_ages 124 = .ok (.dadd, 1) := by decide +kernel
theorem dX3_ages_125 : decode cX3_ages 125 = .ok (.dastore, 1) := by decide +kernel
theorem dX3_ages_126 : decode cX3_ages 126 = .ok (.aload_n 0, 1) := by decide +kernel
theorem dX3_ages_127 : decode cX3_ages 127 = .ok (.getfield 16, 3) := by decide +kernel
theorem dX3_ages_130 : decode cX3_ages 130 = .ok (.bipush 24, 2) := by decide +kernel
theorem dX3_ages_132 : decode cX3_ages 132 = .ok (.iload_n 1, 1) := by decide +kernel
theorem dX3_ages_133 : decode cX3_ages 133 = .ok (.iadd, 1) := by decide +kernel
theorem dX3_ages_134 : decode cX3_ages 134 = .ok (.aload_n 0, 1) := by decide +kernel
theorem dX3_ages_135 : decode cX3_ages 135 = .ok (.getfield 16, 3) := by decide +kernel
theorem dX3_ages_138 : decode cX3_ages 138 = .ok (.bipush 24, 2) := by decide +kernel
theorem dX3_ages_140 : decode cX3_ages 140 = .ok (.iload_n 1, 1) := by decide +kernel
theorem dX3_ages_141 : decode cX3_ages 141 = .ok (.iadd, 1) := by decide +kernel
theorem dX3_ages_142 : decode cX3_ages 142 = .ok (.daload, 1) := by decide +kernel
theorem dX3_ages_143 : decode cX3_ages 143 = .ok (.ldc2_w 82, 3) := by decide +kernel
theorem dX3_ages_146 : decode cX3_ages 146 = .ok (.dsub, 1) := by decide +kernel
theorem dX3_ages_147 : decode cX3_ages 147 = .ok (.dastore, 1) := by decide +kernel
theorem dX3_ages_148 : decode cX3_ages 148 = .ok (.goto 31, 3) := by decide +kernel
theorem dX3_ages_151 : decode cX3_ages 151 = .ok (.aload_n 0, 1) := by decide +kernel
theorem dX3_ages_152 : decode cX3_ages 152 = .ok (.getfield 16, 3) := by decide +kernel
theorem dX3_ages_155 : decode cX3_ages 155 = .ok (.bipush 16, 2) := by decide +kernel
theorem dX3_ages_157 : decode cX3_ages 157 = .ok (.iload_n 1, 1) := by decide +kernel
theorem dX3_ages_158 : decode cX3_ages 158 = .ok (.iadd, 1) := by decide +kernel
theorem dX3_ages_159 : decode cX3_ages 159 = .ok (.aload_n 0, 1) := by decide +kernel
theorem dX3_ages_160 : decode cX3_ages 160 = .ok (.getfield 16, 3) := by decide +kernel
theorem dX3_ages_163 : decode cX3_ages 163 = .ok (.bipush 16, 2) := by decide +kernel
theorem dX3_ages_165 : decode cX3_ages 165 = .ok (.iload_n 1, 1) := by decide +kernel
theorem dX3_ages_166 : decode cX3_ages 166 = .ok (.iadd, 1) := by decide +kernel
theorem dX3_ages_167 : decode cX3_ages 167 = .ok (.daload, 1) := by decide +kernel
theorem dX3_ages_168 : decode cX3_ages 168 = .ok (.ldc2_w 84, 3) := by decide +kernel
theorem dX3_ages_171 : decode cX3_ages 171 = .ok (.dadd, 1) := by decide +kernel
theorem dX3_ages_172 : decode cX3_ages 172 = .ok (.ldc2_w 86, 3) := by decide +kernel
theorem dX3_ages_175 : decode cX3_ages 175 = .ok (.invokestatic 50, 3) := by decide +kernel
theorem dX3_ages_178 : decode cX3_ages 178 = .ok (.dastore, 1) := by decide +kernel
theorem dX3_ages_179 : decode cX3_ages 179 = .ok (.aload_n 0, 1) := by decide +kernel
theorem dX3_ages_180 : decode cX3_ages 180 = .ok (.getfield 16, 3) := by decide +kernel
theorem dX3_ages_183 : decode cX3_ages 183 = .ok (.bipush 8, 2) := by decide +kernel
theorem dX3_ages_185 : decode cX3_ages 185 = .ok (.iload_n 1, 1) := by decide +kernel
theorem dX3_ages_186 : decode cX3_ages 186 = .ok (.iadd, 1) := by decide +kernel
theorem dX3_ages_187 : decode cX3_ages 187 = .ok (.aload_n 0, 1) := by decide +kernel
theorem dX3_ages_188 : decode cX3_ages 188 = .ok (.getfield 16, 3) := by decide +kernel
theorem dX3_ages_191 : decode cX3_ages 191 = .ok (.bipush 8, 2) := by decide +kernel
theorem dX3_ages_193 : decode cX3_ages 193 = .ok (.iload_n 1, 1) := by decide +kernel
theorem dX3_ages_194 : decode cX3_ages 194 = .ok (.iadd, 1) := by decide +kernel
theorem dX3_ages_195 : decode cX3_ages 195 = .ok (.daload, 1) := by decide +kernel
theorem dX3_ages_196 : decode cX3_ages 196 = .ok (.dconst 1, 1) := by decide +kernel
theorem dX3_ages_197 : decode cX3_ages 197 = .ok (.dadd, 1) := by decide +kernel
theorem dX3_ages_198 : decode cX3_ages 198 = .ok (.dastore, 1) := by decide +kernel
theorem dX3_ages_199 : decode cX3_ages 199 = .ok (.dload 4, 2) := by decide +kernel
theorem dX3_ages_201 : decode cX3_ages 201 = .ok (.dreturn, 1) := by decide +kernel
set_option maxRecDepth 20000 in
theorem ggX3_oldestNow_X3_isEmpty : GoodIn wsX3_oldestNow wsX3_isEmpty := goodIn_r _ [7, 2, 8, 9, 10, 11, 12, 13, 14, 15, 16, 17, 18, 19, 20] (by decide +kernel) (by decide +kernel)
set_option maxRecDepth 20000 in
theorem gX3_oldestNow_X3_isEmpty : GoodIn wsX3_oldestNow (wsV RX3 88 RX3 yX3_isEmpty wsX3_isEmpty) := goodIn_app (goodIn_of _ (by decide +kernel)) ggX3_oldestNow_X3_isEmpty
theorem dX3_oldestNow_0 : decode cX3_oldestNow 0 = .ok (.iconst (-1), 1) := by decide +kernel
theorem dX3_oldestNow_1 : decode cX3_oldestNow 1 = .ok (.istore_n 1, 1) := by decide +kernel
theorem dX3_oldestNow_2 : decode cX3_oldestNow 2 = .ok (.iconst 0, 1) := by decide +kernel
theorem dX3_oldestNow_3 : decode cX3_oldestNow 3 = .ok (.istore_n 2, 1) := by decide +kernel
theorem dX3_oldestNow_4 : decode cX3_oldestNow 4 = .ok (.iload_n 2, 1) := by decide +kernel
theorem dX3_oldestNow_5 : decode cX3_oldestNow 5 = .ok (.aload_n 0, 1) := by decide +kernel
theorem dX3_oldestNow_6 : decode cX3_oldestNow 6 = .ok (.getfield 33, 3) := by decide +kernel
theorem dX3_oldestNow_9 : decode cX3_oldestNow 9 = .ok (.if_icmp .ge 49, 3) := by decide +kernel
theorem dX3_oldestNow_12 : decode cX3_oldestNow 12 = .ok (.aload_n 0, 1) := by decide +kernel
theorem dX3_oldestNow_13 : decode cX3_oldestNow 13 = .ok (.iload_n 2, 1) := by decide +kernel
theorem dX3_oldestNow_14 : decode cX3_oldestNow 14 = .ok (.invokevirtual 88, 3) := by decide +kernel
theorem dX3_oldestNow_17 : decode cX3_oldestNow 17 = .ok (.ifCond .ne 33, 3) := by decide +kernel
theorem dX3_oldestNow_20 : decode cX3_oldestNow 20 = .ok (.iload_n 1, 1) := by decide +kernel
theorem dX3_oldestNow_21 : decode cX3_oldestNow 21 = .ok (.ifCond .lt 25, 3) := by decide +kernel
theorem dX3_oldestNow_24 : decode cX3_oldestNow 24 = .ok (.aload_n 0, 1) := by decide +kernel
theorem dX3_oldestNow_25 : decode cX3_oldestNow 25 = .ok (.getfield 16, 3) := by decide +kernel
theorem dX3_oldestNow_28 : decode cX3_oldestNow 28 = .ok (.bipush 8, 2) := by decide +kernel
theorem dX3_oldestNow_30 : decode cX3_oldestNow 30 = .ok (.iload_n 2, 1) := by decide +kernel
theorem dX3_oldestNow_31 : decode cX3_oldestNow 31 = .ok (.iadd, 1) := by decide +kernel
theorem dX3_oldestNow_32 : decode cX3_oldestNow 32 = .ok (.daload, 1) := by decide +kernel
theorem dX3_oldestNow_33 : decode cX3_oldestNow 33 = .ok (.aload_n 0, 1) := by decide +kernel
theorem dX3_oldestNow_34 : decode cX3_oldestNow 34 = .ok (.getfield 16, 3) := by decide +kernel
theorem dX3_oldestNow_37 : decode cX3_oldestNow 37 = .ok (.bipush 8, 2) := by decide +kernel
theorem dX3_oldestNow_39 : decode cX3_oldestNow 39 = .ok (.iload_n 1, 1) := by decide +kernel
theorem dX3_oldestNow_40 : decode cX3_oldestNow 40 = .ok (.iadd, 1) := by decide +kernel
theorem dX3_oldestNow_41 : decode cX3_oldestNow 41 = .ok (.daload, 1) := by decide +kernel
theorem dX3_oldestNow_42 : decode cX3_oldestNow 42 = .ok (.dcmp .l, 1) := by decide +kernel
theorem dX3_oldestNow_43 : decode cX3_oldestNow 43 = .ok (.ifCond .lt 7, 3) := by decide +kernel
theorem dX3_oldestNow_46 : decode cX3_oldestNow 46 = .ok (.iload_n 2, 1) := by decide +kernel
theorem dX3_oldestNow_47 : decode cX3_oldestNow 47 = .ok (.goto 4, 3) := by decide +kernel
theorem dX3_oldestNow_50 : decode cX3_oldestNow 50 = .ok (.iload_n 1, 1) := by decide +kernel
theorem dX3_oldestNow_51 : decode cX3_oldestNow 51 = .ok (.istore_n 1, 1) := by decide +kernel
theorem dX3_oldestNow_52 : decode cX3_oldestNow 52 = .ok (.iinc 2 1, 3) := by decide +kernel
theorem dX3_oldestNow_55 : decode cX3_oldestNow 55 = .ok (.goto (-51), 3) := by decide +kernel
theorem dX3_oldestNow_58 : decode cX3_oldestNow 58 = .ok (.iload_n 1, 1) := by decide +kernel
theorem dX3_oldestNow_59 : decode cX3_oldestNow 59 = .ok (.ireturn, 1) := by decide +kernel
set_option maxRecDepth 20000 in
theorem ggX3_passes_X3_isEmpty : GoodIn wsX3_passes wsX3_isEmpty := goodIn_r _ [11, 5, 45, 46, 47, 48, 49, 50, 51, 52, 53, 54, 55, 56, 57] (by decide +kernel) (by decide +kernel)
set_option maxRecDepth 20000 in
theorem gX3_passes_X3_isEmpty : GoodIn wsX3_passes (wsV RX3 88 RX3 yX3_isEmpty wsX3_isEmpty) := goodIn_app (goodIn_of _ (by decide +kernel)) ggX3_passes_X3_isEmpty
set_option maxRecDepth 20000 in
theorem ggX3_passes_X3_ages : GoodIn wsX3_passes wsX3_ages := goodIn_r _ [15, 5, 16, 17, 18, 19, 20, 21, 22, 23, 24, 25, 10, 26, 27, 28, 29, 30, 31, 32, 33, 34, 35, 36, 37, 38, 39, 40, 45, 46, 47, 48, 49, 50, 51, 52, 53, 54, 55, 56, 57] (by decide +kernel) (by decide +kernel)
set_option maxRecDepth 20000 in
theorem gX3_passes_X3_ages : GoodIn wsX3_passes (wsV RX3 92 RX3 yX3_ages wsX3_ages) := goodIn_app (goodIn_of _ (by decide +kernel)) ggX3_passes_X3_ages
set_option maxRecDepth 20000 in
theorem ggX3_passes_X3_oldestNow : GoodIn wsX3_passes wsX3_oldestNow := goodIn_r _ [44, 1, 5, 7, 8, 9, 10, 11, 45, 46, 47, 48, 49, 50, 51, 52, 53, 54, 55, 56, 57] (by decide +kernel) (by decide +kernel)
set_option maxRecDepth 20000 in
theorem gX3_passes_X3_oldestNow : GoodIn wsX3_passes (wsV RX3 98 RX3 yX3_oldestNow wsX3_oldestNow) := goodIn_app (goodIn_of _ (by decide +kernel)) ggX3_passes_X3_oldestNow
theorem dX3_passes_0 : decode cX3_passes 0 = .ok (.dconst 0, 1) := by decide +kernel
theorem dX3_passes_1 : decode cX3_passes 1 = .ok (.dstore_n 1, 1) := by decide +kernel
theorem dX3_passes_2 : decode cX3_passes 2 = .ok (.iconst 0, 1) := by decide +kernel
theorem dX3_passes_3 : decode cX3_passes 3 = .ok (.istore_n 3, 1) := by decide +kernel
theorem dX3_passes_4 : decode cX3_passes 4 = .ok (.iload_n 3, 1) := by decide +kernel
theorem dX3_passes_5 : decode cX3_passes 5 = .ok (.aload_n 0, 1) := by decide +kernel
theorem dX3_passes_6 : decode cX3_passes 6 = .ok (.getfield 33, 3) := by decide +kernel
theorem dX3_passes_9 : decode cX3_passes 9 = .ok (.if_icmp .ge 25, 3) := by decide +kernel
theorem dX3_passes_12 : decode cX3_passes 12 = .ok (.aload_n 0, 1) := by decide +kernel
theorem dX3_passes_13 : decode cX3_passes 13 = .ok (.iload_n 3, 1) := by decide +kernel
theorem dX3_passes_14 : decode cX3_passes 14 = .ok (.invokevirtual 88, 3) := by decide +kernel
theorem dX3_passes_17 : decode cX3_passes 17 = .ok (.ifCond .ne 11, 3) := by decide +kernel
theorem dX3_passes_20 : decode cX3_passes 20 = .ok (.dload_n 1, 1) := by decide +kernel
theorem dX3_passes_21 : decode cX3_passes 21 = .ok (.aload_n 0, 1) := by decide +kernel
theorem dX3_passes_22 : decode cX3_passes 22 = .ok (.iload_n 3, 1) := by decide +kernel
theorem dX3_passes_23 : decode cX3_passes 23 = .ok (.invokevirtual 92, 3) := by decide +kernel
theorem dX3_passes_26 : decode cX3_passes 26 = .ok (.dadd, 1) := by decide +kernel
theorem dX3_passes_27 : decode cX3_passes 27 = .ok (.dstore_n 1, 1) := by decide +kernel
theorem dX3_passes_28 : decode cX3_passes 28 = .ok (.iinc 3 1, 3) := by decide +kernel
theorem dX3_passes_31 : decode cX3_passes 31 = .ok (.goto (-27), 3) := by decide +kernel
theorem dX3_passes_34 : decode cX3_passes 34 = .ok (.aload_n 0, 1) := by decide +kernel
theorem dX3_passes_35 : decode cX3_passes 35 = .ok (.dup, 1) := by decide +kernel
theorem dX3_passes_36 : decode cX3_passes 36 = .ok (.getfield 95, 3) := by decide +kernel
end
section
theorem dX3_passes_39 : decode cX3_passes 39 = .ok (.iconst 1, 1) := by decide +kernel
theorem dX3_passes_40 : decode cX3_passes 40 = .ok (.iadd, 1) := by decide +kernel
theorem dX3_passes_41 : decode cX3_passes 41 = .ok (.putfield 95, 3) := by decide +kernel
theorem dX3_passes_44 : decode cX3_passes 44 = .ok (.aload_n 0, 1) := by decide +kernel
theorem dX3_passes_45 : decode cX3_passes 45 = .ok (.aload_n 0, 1) := by decide +kernel
theorem dX3_passes_46 : decode cX3_passes 46 = .ok (.invokevirtual 98, 3) := by decide +kernel
theorem dX3_passes_49 : decode cX3_passes 49 = .ok (.putfield 27, 3) := by decide +kernel
theorem dX3_passes_52 : decode cX3_passes 52 = .ok (.aload_n 0, 1) := by decide +kernel
theorem dX3_passes_53 : decode cX3_passes 53 = .ok (.aload_n 0, 1) := by decide +kernel
theorem dX3_passes_54 : decode cX3_passes 54 = .ok (.getfield 27, 3) := by decide +kernel
theorem dX3_passes_57 : decode cX3_passes 57 = .ok (.ifCond .ge 7, 3) := by decide +kernel
theorem dX3_passes_60 : decode cX3_passes 60 = .ok (.dconst 0, 1) := by decide +kernel
theorem dX3_passes_61 : decode cX3_passes 61 = .ok (.goto 18, 3) := by decide +kernel
theorem dX3_passes_64 : decode cX3_passes 64 = .ok (.ldc2_w 102, 3) := by decide +kernel
theorem dX3_passes_67 : decode cX3_passes 67 = .ok (.aload_n 0, 1) := by decide +kernel
theorem dX3_passes_68 : decode cX3_passes 68 = .ok (.getfield 16, 3) := by decide +kernel
theorem dX3_passes_71 : decode cX3_passes 71 = .ok (.iconst 0, 1) := by decide +kernel
theorem dX3_passes_72 : decode cX3_passes 72 = .ok (.aload_n 0, 1) := by decide +kernel
theorem dX3_passes_73 : decode cX3_passes 73 = .ok (.getfield 27, 3) := by decide +kernel
theorem dX3_passes_76 : decode cX3_passes 76 = .ok (.iadd, 1) := by decide +kernel
theorem dX3_passes_77 : decode cX3_passes 77 = .ok (.daload, 1) := by decide +kernel
theorem dX3_passes_78 : decode cX3_passes 78 = .ok (.dmul, 1) := by decide +kernel
theorem dX3_passes_79 : decode cX3_passes 79 = .ok (.putfield 104, 3) := by decide +kernel
theorem dX3_passes_82 : decode cX3_passes 82 = .ok (.dload_n 1, 1) := by decide +kernel
theorem dX3_passes_83 : decode cX3_passes 83 = .ok (.dreturn, 1) := by decide +kernel
set_option maxRecDepth 20000 in
theorem ggX3_bottlesNow_X3_oldestNow : GoodIn wsX3_bottlesNow wsX3_oldestNow := goodIn_r _ [11, 12, 2, 13, 14, 15, 10, 16, 20, 21, 22, 23, 24, 25, 26, 27, 28, 29, 30, 31, 32] (by decide +kernel) (by decide +kernel)
set_option maxRecDepth 20000 in
theorem gX3_bottlesNow_X3_oldestNow : GoodIn wsX3_bottlesNow (wsV RX3 98 RX3 yX3_oldestNow wsX3_oldestNow) := goodIn_app (goodIn_of _ (by decide +kernel)) ggX3_bottlesNow_X3_oldestNow
set_option maxRecDepth 20000 in
theorem ggX3_bottlesNow_X3_lesser : GoodIn wsX3_bottlesNow wsX3_lesser := goodIn_r _ [19] (by decide +kernel) (by decide +kernel)
set_option maxRecDepth 20000 in
theorem gX3_bottlesNow_X3_lesser : GoodIn wsX3_bottlesNow (va_wsS RX3 50 yX3_lesser wsX3_lesser) := goodIn_app (goodIn_of _ (by decide +kernel)) ggX3_bottlesNow_X3_lesser
theorem dX3_bottlesNow_0 : decode cX3_bottlesNow 0 = .ok (.aload_n 0, 1) := by decide +kernel
theorem dX3_bottlesNow_1 : decode cX3_bottlesNow 1 = .ok (.invokevirtual 98, 3) := by decide +kernel
theorem dX3_bottlesNow_4 : decode cX3_bottlesNow 4 = .ok (.istore_n 1, 1) := by decide +kernel
theorem dX3_bottlesNow_5 : decode cX3_bottlesNow 5 = .ok (.iload_n 1, 1) := by decide +kernel
theorem dX3_bottlesNow_6 : decode cX3_bottlesNow 6 = .ok (.ifCond .lt 43, 3) := by decide +kernel
theorem dX3_bottlesNow_9 : decode cX3_bottlesNow 9 = .ok (.iload_n 1, 1) := by decide +kernel
theorem dX3_bottlesNow_10 : decode cX3_bottlesNow 10 = .ok (.aload_n 0, 1) := by decide +kernel
theorem dX3_bottlesNow_11 : decode cX3_bottlesNow 11 = .ok (.getfield 27, 3) := by decide +kernel
theorem dX3_bottlesNow_14 : decode cX3_bottlesNow 14 = .ok (.if_icmp .ne 35, 3) := by decide +kernel
theorem dX3_bottlesNow_17 : decode cX3_bottlesNow 17 = .ok (.aload_n 0, 1) := by decide +kernel
theorem dX3_bottlesNow_18 : decode cX3_bottlesNow 18 = .ok (.getfield 16, 3) := by decide +kernel
theorem dX3_bottlesNow_21 : decode cX3_bottlesNow 21 = .ok (.bipush 8, 2) := by decide +kernel
theorem dX3_bottlesNow_23 : decode cX3_bottlesNow 23 = .ok (.iload_n 1, 1) := by decide +kernel
theorem dX3_bottlesNow_24 : decode cX3_bottlesNow 24 = .ok (.iadd, 1) := by decide +kernel
theorem dX3_bottlesNow_25 : decode cX3_bottlesNow 25 = .ok (.daload, 1) := by decide +kernel
theorem dX3_bottlesNow_26 : decode cX3_bottlesNow 26 = .ok (.ldc2_w 86, 3) := by decide +kernel
theorem dX3_bottlesNow_29 : decode cX3_bottlesNow 29 = .ok (.dcmp .g, 1) := by decide +kernel
theorem dX3_bottlesNow_30 : decode cX3_bottlesNow 30 = .ok (.ifCond .lt 19, 3) := by decide +kernel
theorem dX3_bottlesNow_33 : decode cX3_bottlesNow 33 = .ok (.aload_n 0, 1) := by decide +kernel
theorem dX3_bottlesNow_34 : decode cX3_bottlesNow 34 = .ok (.getfield 16, 3) := by decide +kernel
theorem dX3_bottlesNow_37 : decode cX3_bottlesNow 37 = .ok (.bipush 24, 2) := by decide +kernel
theorem dX3_bottlesNow_39 : decode cX3_bottlesNow 39 = .ok (.iload_n 1, 1) := by decide +kernel
theorem dX3_bottlesNow_40 : decode cX3_bottlesNow 40 = .ok (.iadd, 1) := by decide +kernel
theorem dX3_bottlesNow_41 : decode cX3_bottlesNow 41 = .ok (.daload, 1) := by decide +kernel
theorem dX3_bottlesNow_42 : decode cX3_bottlesNow 42 = .ok (.ldc2_w 108, 3) := by decide +kernel
theorem dX3_bottlesNow_45 : decode cX3_bottlesNow 45 = .ok (.dcmp .g, 1) := by decide +kernel
theorem dX3_bottlesNow_46 : decode cX3_bottlesNow 46 = .ok (.ifCond .ge 5, 3) := by decide +kernel
theorem dX3_bottlesNow_49 : decode cX3_bottlesNow 49 = .ok (.iconst 0, 1) := by decide +kernel
theorem dX3_bottlesNow_50 : decode cX3_bottlesNow 50 = .ok (.ireturn, 1) := by decide +kernel
theorem dX3_bottlesNow_51 : decode cX3_bottlesNow 51 = .ok (.aload_n 0, 1) := by decide +kernel
theorem dX3_bottlesNow_52 : decode cX3_bottlesNow 52 = .ok (.getfield 104, 3) := by decide +kernel
theorem dX3_bottlesNow_55 : decode cX3_bottlesNow 55 = .ok (.aload_n 0, 1) := by decide +kernel
theorem dX3_bottlesNow_56 : decode cX3_bottlesNow 56 = .ok (.getfield 16, 3) := by decide +kernel
theorem dX3_bottlesNow_59 : decode cX3_bottlesNow 59 = .ok (.iconst 0, 1) := by decide +kernel
theorem dX3_bottlesNow_60 : decode cX3_bottlesNow 60 = .ok (.iload_n 1, 1) := by decide +kernel
theorem dX3_bottlesNow_61 : decode cX3_bottlesNow 61 = .ok (.iadd, 1) := by decide +kernel
theorem dX3_bottlesNow_62 : decode cX3_bottlesNow 62 = .ok (.daload, 1) := by decide +kernel
theorem dX3_bottlesNow_63 : decode cX3_bottlesNow 63 = .ok (.invokestatic 50, 3) := by decide +kernel
theorem dX3_bottlesNow_66 : decode cX3_bottlesNow 66 = .ok (.dstore_n 2, 1) := by decide +kernel
theorem dX3_bottlesNow_67 : decode cX3_bottlesNow 67 = .ok (.dload_n 2, 1) := by decide +kernel
theorem dX3_bottlesNow_68 : decode cX3_bottlesNow 68 = .ok (.ldc2_w 84, 3) := by decide +kernel
theorem dX3_bottlesNow_71 : decode cX3_bottlesNow 71 = .ok (.ddiv, 1) := by decide +kernel
theorem dX3_bottlesNow_72 : decode cX3_bottlesNow 72 = .ok (.d2i, 1) := by decide +kernel
theorem dX3_bottlesNow_73 : decode cX3_bottlesNow 73 = .ok (.ireturn, 1) := by decide +kernel
theorem dX3_add_0 : decode cX3_add 0 = .ok (.iload_n 1, 1) := by decide +kernel
theorem dX3_add_1 : decode cX3_add 1 = .ok (.ifCond .lt 46, 3) := by decide +kernel
theorem dX3_add_4 : decode cX3_add 4 = .ok (.iload_n 1, 1) := by decide +kernel
theorem dX3_add_5 : decode cX3_add 5 = .ok (.iconst 3, 1) := by decide +kernel
theorem dX3_add_6 : decode cX3_add 6 = .ok (.if_icmp .gt 41, 3) := by decide +kernel
theorem dX3_add_9 : decode cX3_add 9 = .ok (.iload_n 2, 1) := by decide +kernel
theorem dX3_add_10 : decode cX3_add 10 = .ok (.bipush 10, 2) := by decide +kernel
theorem dX3_add_12 : decode cX3_add 12 = .ok (.if_icmp .lt 35, 3) := by decide +kernel
theorem dX3_add_15 : decode cX3_add 15 = .ok (.iload_n 2, 1) := by decide +kernel
theorem dX3_add_16 : decode cX3_add 16 = .ok (.bipush 100, 2) := by decide +kernel
theorem dX3_add_18 : decode cX3_add 18 = .ok (.if_icmp .gt 29, 3) := by decide +kernel
theorem dX3_add_21 : decode cX3_add 21 = .ok (.aload_n 0, 1) := by decide +kernel
theorem dX3_add_22 : decode cX3_add 22 = .ok (.getfield 33, 3) := by decide +kernel
theorem dX3_add_25 : decode cX3_add 25 = .ok (.ifCond .eq 18, 3) := by decide +kernel
theorem dX3_add_28 : decode cX3_add 28 = .ok (.iload_n 2, 1) := by decide +kernel
theorem dX3_add_29 : decode cX3_add 29 = .ok (.aload_n 0, 1) := by decide +kernel
theorem dX3_add_30 : decode cX3_add 30 = .ok (.getfield 13, 3) := by decide +kernel
theorem dX3_add_33 : decode cX3_add 33 = .ok (.aload_n 0, 1) := by decide +kernel
theorem dX3_add_34 : decode cX3_add 34 = .ok (.getfield 33, 3) := by decide +kernel
theorem dX3_add_37 : decode cX3_add 37 = .ok (.iconst 1, 1) := by decide +kernel
theorem dX3_add_38 : decode cX3_add 38 = .ok (.isub, 1) := by decide +kernel
theorem dX3_add_39 : decode cX3_add 39 = .ok (.iaload, 1) := by decide +kernel
theorem dX3_add_40 : decode cX3_add 40 = .ok (.if_icmp .ge 7, 3) := by decide +kernel
theorem dX3_add_43 : decode cX3_add 43 = .ok (.iconst 1, 1) := by decide +kernel
theorem dX3_add_44 : decode cX3_add 44 = .ok (.goto 4, 3) := by decide +kernel
theorem dX3_add_47 : decode cX3_add 47 = .ok (.iconst 0, 1) := by decide +kernel
theorem dX3_add_48 : decode cX3_add 48 = .ok (.istore_n 3, 1) := by decide +kernel
theorem dX3_add_49 : decode cX3_add 49 = .ok (.aload_n 0, 1) := by decide +kernel
theorem dX3_add_50 : decode cX3_add 50 = .ok (.iload_n 3, 1) := by decide +kernel
theorem dX3_add_51 : decode cX3_add 51 = .ok (.ifCond .ne 7, 3) := by decide +kernel
theorem dX3_add_54 : decode cX3_add 54 = .ok (.iconst 1, 1) := by decide +kernel
theorem dX3_add_55 : decode cX3_add 55 = .ok (.goto 17, 3) := by decide +kernel
theorem dX3_add_58 : decode cX3_add 58 = .ok (.aload_n 0, 1) := by decide +kernel
theorem dX3_add_59 : decode cX3_add 59 = .ok (.getfield 33, 3) := by decide +kernel
theorem dX3_add_62 : decode cX3_add 62 = .ok (.bipush 8, 2) := by decide +kernel
theorem dX3_add_64 : decode cX3_add 64 = .ok (.if_icmp .ne 7, 3) := by decide +kernel
theorem dX3_add_67 : decode cX3_add 67 = .ok (.iconst 2, 1) := by decide +kernel
theorem dX3_add_68 : decode cX3_add 68 = .ok (.goto 4, 3) := by decide +kernel
theorem dX3_add_71 : decode cX3_add 71 = .ok (.iconst 0, 1) := by decide +kernel
theorem dX3_add_72 : decode cX3_add 72 = .ok (.putfield 30, 3) := by decide +kernel
theorem dX3_add_75 : decode cX3_add 75 = .ok (.aload_n 0, 1) := by decide +kernel
theorem dX3_add_76 : decode cX3_add 76 = .ok (.getfield 30, 3) := by decide +kernel
theorem dX3_add_79 : decode cX3_add 79 = .ok (.ifCond .eq 5, 3) := by decide +kernel
theorem dX3_add_82 : decode cX3_add 82 = .ok (.iconst 0, 1) := by decide +kernel
theorem dX3_add_83 : decode cX3_add 83 = .ok (.ireturn, 1) := by decide +kernel
theorem dX3_add_84 : decode cX3_add 84 = .ok (.aload_n 0, 1) := by decide +kernel
theorem dX3_add_85 : decode cX3_add 85 = .ok (.getfield 7, 3) := by decide +kernel
theorem dX3_add_88 : decode cX3_add 88 = .ok (.aload_n 0, 1) := by decide +kernel
theorem dX3_add_89 : decode cX3_add 89 = .ok (.getfield 33, 3) := by decide +kernel
theorem dX3_add_92 : decode cX3_add 92 = .ok (.iload_n 1, 1) := by decide +kernel
theorem dX3_add_93 : decode cX3_add 93 = .ok (.iastore, 1) := by decide +kernel
theorem dX3_add_94 : decode cX3_add 94 = .ok (.aload_n 0, 1) := by decide +kernel
theorem dX3_add_95 : decode cX3_add 95 = .ok (.getfield 13, 3) := by decide +kernel
theorem dX3_add_98 : decode cX3_add 98 = .ok (.aload_n 0, 1) := by decide +kernel
theorem dX3_add_99 : decode cX3_add 99 = .ok (.getfield 33, 3) := by decide +kernel
theorem dX3_add_102 : decode cX3_add 102 = .ok (.iload_n 2, 1) := by decide +kernel
theorem dX3_add_103 : decode cX3_add 103 = .ok (.iastore, 1) := by decide +kernel
theorem dX3_add_104 : decode cX3_add 104 = .ok (.aload_n 0, 1) := by decide +kernel
theorem dX3_add_105 : decode cX3_add 105 = .ok (.dup, 1) := by decide +kernel
theorem dX3_add_106 : decode cX3_add 106 = .ok (.getfield 33, 3) := by decide +kernel
theorem dX3_add_109 : decode cX3_add 109 = .ok (.iconst 1, 1) := by decide +kernel
theorem dX3_add_110 : decode cX3_add 110 = .ok (.iadd, 1) := by decide +kernel
theorem dX3_add_111 : decode cX3_add 111 = .ok (.putfield 33, 3) := by decide +kernel
theorem dX3_add_114 : decode cX3_add 114 = .ok (.aload_n 0, 1) := by decide +kernel
theorem dX3_add_115 : decode cX3_add 115 = .ok (.getfield 33, 3) := by decide +kernel
theorem dX3_add_118 : decode cX3_add 118 = .ok (.iconst 1, 1) := by decide +kernel
theorem dX3_add_119 : decode cX3_add 119 = .ok (.isub, 1) := by decide +kernel
theorem dX3_add_120 : decode cX3_add 120 = .ok (.ireturn, 1) := by decide +kernel
set_option maxRecDepth 20000 in
theorem ggX3_fill_X3_room : GoodIn wsX3_fill wsX3_room := goodIn_r _ [7, 8, 9, 26, 27, 28, 29, 30, 31, 32, 33, 34, 35, 36, 37, 38] (by decide +kernel) (by decide +kernel)
set_option maxRecDepth 20000 in
theorem gX3_fill_X3_room : GoodIn wsX3_fill (wsV RX3 110 RX3 yX3_room wsX3_room) := goodIn_app (goodIn_of _ (by decide +kernel)) ggX3_fill_X3_room
set_option maxRecDepth 20000 in
theorem ggX3_fill_X3_lesser : GoodIn wsX3_fill wsX3_lesser := goodIn_r _ [12] (by decide +kernel) (by decide +kernel)
set_option maxRecDepth 20000 in
theorem gX3_fill_X3_lesser : GoodIn wsX3_fill (va_wsS RX3 50 yX3_lesser wsX3_lesser) := goodIn_app (goodIn_of _ (by decide +kernel)) ggX3_fill_X3_lesser
set_option maxRecDepth 20000 in
theorem ggX3_fill_X3_pours : GoodIn wsX3_fill wsX3_pours := goodIn_r _ [16, 17, 18, 19, 20, 6, 21, 9, 22, 23, 24, 25, 26, 27, 28, 29, 30, 31, 32, 33, 34, 35, 36, 37, 38] (by decide +kernel) (by decide +kernel)
set_option maxRecDepth 20000 in
theorem gX3_fill_X3_pours : GoodIn wsX3_fill (wsV RX3 113 RX3 yX3_pours wsX3_pours) := goodIn_app (goodIn_of _ (by decide +kernel)) ggX3_fill_X3_pours
theorem dX3_fill_0 : decode cX3_fill 0 = .ok (.aload_n 0, 1) := by decide +kernel
theorem dX3_fill_1 : decode cX3_fill 1 = .ok (.iload_n 1, 1) := by decide +kernel
theorem dX3_fill_2 : decode cX3_fill 2 = .ok (.iconst 1, 1) := by decide +kernel
theorem dX3_fill_3 : decode cX3_fill 3 = .ok (.if_icmp .lt 13, 3) := by decide +kernel
theorem dX3_fill_6 : decode cX3_fill 6 = .ok (.iload_n 1, 1) := by decide +kernel
theorem dX3_fill_7 : decode cX3_fill 7 = .ok (.bipush 100, 2) := by decide +kernel
theorem dX3_fill_9 : decode cX3_fill 9 = .ok (.if_icmp .gt 7, 3) := by decide +kernel
theorem dX3_fill_12 : decode cX3_fill 12 = .ok (.iconst 0, 1) := by decide +kernel
theorem dX3_fill_13 : decode cX3_fill 13 = .ok (.goto 4, 3) := by decide +kernel
theorem dX3_fill_16 : decode cX3_fill 16 = .ok (.iconst 1, 1) := by decide +kernel
theorem dX3_fill_17 : decode cX3_fill 17 = .ok (.putfield 30, 3) := by decide +kernel
theorem dX3_fill_20 : decode cX3_fill 20 = .ok (.aload_n 0, 1) := by decide +kernel
theorem dX3_fill_21 : decode cX3_fill 21 = .ok (.getfield 30, 3) := by decide +kernel
theorem dX3_fill_24 : decode cX3_fill 24 = .ok (.ifCond .ne 10, 3) := by decide +kernel
theorem dX3_fill_27 : decode cX3_fill 27 = .ok (.aload_n 0, 1) := by decide +kernel
theorem dX3_fill_28 : decode cX3_fill 28 = .ok (.getfield 33, 3) := by decide +kernel
theorem dX3_fill_31 : decode cX3_fill 31 = .ok (.ifCond .ne 7, 3) := by decide +kernel
theorem dX3_fill_34 : decode cX3_fill 34 = .ok (.dconst 0, 1) := by decide +kernel
theorem dX3_fill_35 : decode cX3_fill 35 = .ok (.goto 16, 3) := by decide +kernel
theorem dX3_fill_38 : decode cX3_fill 38 = .ok (.aload_n 0, 1) := by decide +kernel
theorem dX3_fill_39 : decode cX3_fill 39 = .ok (.iload_n 1, 1) := by decide +kernel
theorem dX3_fill_40 : decode cX3_fill 40 = .ok (.i2d, 1) := by decide +kernel
theorem dX3_fill_41 : decode cX3_fill 41 = .ok (.aload_n 0, 1) := by decide +kernel
theorem dX3_fill_42 : decode cX3_fill 42 = .ok (.invokevirtual 110, 3) := by decide +kernel
theorem dX3_fill_45 : decode cX3_fill 45 = .ok (.invokestatic 50, 3) := by decide +kernel
theorem dX3_fill_48 : decode cX3_fill 48 = .ok (.invokevirtual 113, 3) := by decide +kernel
theorem dX3_fill_51 : decode cX3_fill 51 = .ok (.dreturn, 1) := by decide +kernel
set_option maxRecDepth 20000 in
theorem ggX3_topUp_X3_topsUp : GoodIn wsX3_topUp wsX3_topsUp := goodIn_r _ [6, 7, 8, 9, 10, 11, 12, 13, 5, 14, 15, 16, 17, 18, 19, 20, 21, 22, 23, 24, 25, 26, 27, 28, 29, 30, 31, 32, 33, 34, 35] (by decide +kernel) (by decide +kernel)
set_option maxRecDepth 20000 in
theorem gX3_topUp_X3_topsUp : GoodIn wsX3_topUp (wsV RX3 117 RX3 yX3_topsUp wsX3_topsUp) := goodIn_app (goodIn_of _ (by decide +kernel)) ggX3_topUp_X3_topsUp
theorem dX3_topUp_0 : decode cX3_topUp 0 = .ok (.aload_n 0, 1) := by decide +kernel
theorem dX3_topUp_1 : decode cX3_topUp 1 = .ok (.iconst 0, 1) := by decide +kernel
theorem dX3_topUp_2 : decode cX3_topUp 2 = .ok (.putfield 30, 3) := by decide +kernel
theorem dX3_topUp_5 : decode cX3_topUp 5 = .ok (.aload_n 0, 1) := by decide +kernel
theorem dX3_topUp_6 : decode cX3_topUp 6 = .ok (.invokevirtual 117, 3) := by decide +kernel
theorem dX3_topUp_9 : decode cX3_topUp 9 = .ok (.dreturn, 1) := by decide +kernel
set_option maxRecDepth 20000 in
theorem ggX3_year_X3_passes : GoodIn wsX3_year wsX3_passes := goodIn_r _ [6, 7, 8, 9, 10, 11, 12, 13, 14, 15, 5, 16, 17, 18, 19, 20, 21, 22, 23, 24, 25, 26, 27, 28, 29, 30, 31, 32, 33, 34, 35, 36, 37, 38, 39, 40, 41, 42, 43, 44, 45, 46, 47, 48, 49, 50, 51, 52, 53, 54, 55, 56, 57, 58, 59, 60, 61, 62] (by decide +kernel) (by decide +kernel)
set_option maxRecDepth 20000 in
theorem gX3_year_X3_passes : GoodIn wsX3_year (wsV RX3 120 RX3 yX3_passes wsX3_passes) := goodIn_app (goodIn_of _ (by decide +kernel)) ggX3_year_X3_passes
theorem dX3_year_0 : decode cX3_year 0 = .ok (.aload_n 0, 1) := by decide +kernel
theorem dX3_year_1 : decode cX3_year 1 = .ok (.iconst 0, 1) := by decide +kernel
theorem dX3_year_2 : decode cX3_year 2 = .ok (.putfield 30, 3) := by decide +kernel
theorem dX3_year_5 : decode cX3_year 5 = .ok (.aload_n 0, 1) := by decide +kernel
theorem dX3_year_6 : decode cX3_year 6 = .ok (.invokevirtual 120, 3) := by decide +kernel
theorem dX3_year_9 : decode cX3_year 9 = .ok (.dreturn, 1) := by decide +kernel
theorem dX3_empties_0 : decode cX3_empties 0 = .ok (.aload_n 0, 1) := by decide +kernel
theorem dX3_empties_1 : decode cX3_empties 1 = .ok (.getfield 16, 3) := by decide +kernel
theorem dX3_empties_4 : decode cX3_empties 4 = .ok (.iconst 0, 1) := by decide +kernel
theorem dX3_empties_5 : decode cX3_empties 5 = .ok (.iload_n 1, 1) := by decide +kernel
theorem dX3_empties_6 : decode cX3_empties 6 = .ok (.iadd, 1) := by decide +kernel
theorem dX3_empties_7 : decode cX3_empties 7 = .ok (.dconst 0, 1) := by decide +kernel
theorem dX3_empties_8 : decode cX3_empties 8 = .ok (.dastore, 1) := by decide +kernel
theorem dX3_empties_9 : decode cX3_empties 9 = .ok (.aload_n 0, 1) := by decide +kernel
theorem dX3_empties_10 : decode cX3_empties 10 = .ok (.getfield 16, 3) := by decide +kernel
theorem dX3_empties_13 : decode cX3_empties 13 = .ok (.bipush 8, 2) := by decide +kernel
theorem dX3_empties_15 : decode cX3_empties 15 = .ok (.iload_n 1, 1) := by decide +kernel
theorem dX3_empties_16 : decode cX3_empties 16 = .ok (.iadd, 1) := by decide +kernel
theorem dX3_empties_17 : decode cX3_empties 17 = .ok (.dconst 0, 1) := by decide +kernel
theorem dX3_empties_18 : decode cX3_empties 18 = .ok (.dastore, 1) := by decide +kernel
theorem dX3_empties_19 : decode cX3_empties 19 = .ok (.aload_n 0, 1) := by decide +kernel
theorem dX3_empties_20 : decode cX3_empties 20 = .ok (.getfield 16, 3) := by decide +kernel
theorem dX3_empties_23 : decode cX3_empties 23 = .ok (.bipush 16, 2) := by decide +kernel
theorem dX3_empties_25 : decode cX3_empties 25 = .ok (.iload_n 1, 1) := by decide +kernel
theorem dX3_empties_26 : decode cX3_empties 26 = .ok (.iadd, 1) := by decide +kernel
theorem dX3_empties_27 : decode cX3_empties 27 = .ok (.dconst 0, 1) := by decide +kernel
theorem dX3_empties_28 : decode cX3_empties 28 = .ok (.dastore, 1) := by decide +kernel
theorem dX3_empties_29 : decode cX3_empties 29 = .ok (.aload_n 0, 1) := by decide +kernel
theorem dX3_empties_30 : decode cX3_empties 30 = .ok (.getfield 16, 3) := by decide +kernel
theorem dX3_empties_33 : decode cX3_empties 33 = .ok (.bipush 24, 2) := by decide +kernel
theorem dX3_empties_35 : decode cX3_empties 35 = .ok (.iload_n 1, 1) := by decide +kernel
theorem dX3_empties_36 : decode cX3_empties 36 = .ok (.iadd, 1) := by decide +kernel
theorem dX3_empties_37 : decode cX3_empties 37 = .ok (.dconst 0, 1) := by decide +kernel
theorem dX3_empties_38 : decode cX3_empties 38 = .ok (.dastore, 1) := by decide +kernel
theorem dX3_empties_39 : decode cX3_empties 39 = .ok (.return_, 1) := by decide +kernel
set_option maxRecDepth 20000 in
theorem ggX3_draw_X3_bottlesNow : GoodIn wsX3_draw wsX3_bottlesNow := goodIn_r _ [15, 2, 3, 16, 7, 9, 10, 17, 18, 19, 14, 20, 21, 22, 23, 24, 25, 26, 27, 28, 33, 34, 35, 36, 37, 38, 39, 40, 41, 42, 43, 44, 45] (by decide +kernel) (by decide +kernel)
set_option maxRecDepth 20000 in
theorem gX3_draw_X3_bottlesNow : GoodIn wsX3_draw (wsV RX3 123 RX3 yX3_bottlesNow wsX3_bottlesNow) := goodIn_app (goodIn_of _ (by decide +kernel)) ggX3_draw_X3_bottlesNow
set_option maxRecDepth 20000 in
theorem ggX3_draw_X3_isEmpty : GoodIn wsX3_draw wsX3_isEmpty := goodIn_r _ [25, 3, 33, 34, 35, 36, 37, 38, 39, 40, 41, 42, 43, 44, 45] (by decide +kernel) (by decide +kernel)
set_option maxRecDepth 20000 in
theorem gX3_draw_X3_isEmpty : GoodIn wsX3_draw (wsV RX3 88 RX3 yX3_isEmpty wsX3_isEmpty) := goodIn_app (goodIn_of _ (by decide +kernel)) ggX3_draw_X3_isEmpty
set_option maxRecDepth 20000 in
theorem ggX3_draw_X3_empties : GoodIn wsX3_draw wsX3_empties := goodIn_r _ [32, 3, 33, 34, 35, 36, 37, 38, 39, 40, 41, 42, 43, 44, 45] (by decide +kernel) (by decide +kernel)
set_option maxRecDepth 20000 in
theorem gX3_draw_X3_empties : GoodIn wsX3_draw (wsV RX3 137 RX3 yX3_empties wsX3_empties) := goodIn_app (goodIn_of _ (by decide +kernel)) ggX3_draw_X3_empties
theorem dX3_draw_0 : decode cX3_draw 0 = .ok (.aload_n 0, 1) := by decide +kernel
theorem dX3_draw_1 : decode cX3_draw 1 = .ok (.iload_n 1, 1) := by decide +kernel
theorem dX3_draw_2 : decode cX3_draw 2 = .ok (.iconst 1, 1) := by decide +kernel
theorem dX3_draw_3 : decode cX3_draw 3 = .ok (.if_icmp .lt 14, 3) := by decide +kernel
theorem dX3_draw_6 : decode cX3_draw 6 = .ok (.iload_n 1, 1) := by decide +kernel
theorem dX3_draw_7 : decode cX3_draw 7 = .ok (.sipush 1000, 3) := by decide +kernel
theorem dX3_draw_10 : decode cX3_draw 10 = .ok (.if_icmp .gt 7, 3) := by decide +kernel
theorem dX3_draw_13 : decode cX3_draw 13 = .ok (.iconst 0, 1) := by decide +kernel
theorem dX3_draw_14 : decode cX3_draw 14 = .ok (.goto 4, 3) := by decide +kernel
theorem dX3_draw_17 : decode cX3_draw 17 = .ok (.iconst 1, 1) := by decide +kernel
theorem dX3_draw_18 : decode cX3_draw 18 = .ok (.putfield 30, 3) := by decide +kernel
theorem dX3_draw_21 : decode cX3_draw 21 = .ok (.aload_n 0, 1) := by decide +kernel
theorem dX3_draw_22 : decode cX3_draw 22 = .ok (.getfield 30, 3) := by decide +kernel
theorem dX3_draw_25 : decode cX3_draw 25 = .ok (.ifCond .eq 5, 3) := by decide +kernel
theorem dX3_draw_28 : decode cX3_draw 28 = .ok (.iconst 0, 1) := by decide +kernel
theorem dX3_draw_29 : decode cX3_draw 29 = .ok (.ireturn, 1) := by decide +kernel
theorem dX3_draw_30 : decode cX3_draw 30 = .ok (.aload_n 0, 1) := by decide +kernel
theorem dX3_draw_31 : decode cX3_draw 31 = .ok (.invokevirtual 123, 3) := by decide +kernel
theorem dX3_draw_34 : decode cX3_draw 34 = .ok (.istore_n 2, 1) := by decide +kernel
theorem dX3_draw_35 : decode cX3_draw 35 = .ok (.iload_n 1, 1) := by decide +kernel
theorem dX3_draw_36 : decode cX3_draw 36 = .ok (.iload_n 2, 1) := by decide +kernel
theorem dX3_draw_37 : decode cX3_draw 37 = .ok (.if_icmp .ge 7, 3) := by decide +kernel
theorem dX3_draw_40 : decode cX3_draw 40 = .ok (.iload_n 1, 1) := by decide +kernel
theorem dX3_draw_41 : decode cX3_draw 41 = .ok (.goto 4, 3) := by decide +kernel
theorem dX3_draw_44 : decode cX3_draw 44 = .ok (.iload_n 2, 1) := by decide +kernel
theorem dX3_draw_45 : decode cX3_draw 45 = .ok (.istore_n 3, 1) := by decide +kernel
theorem dX3_draw_46 : decode cX3_draw 46 = .ok (.iload_n 3, 1) := by decide +kernel
theorem dX3_draw_47 : decode cX3_draw 47 = .ok (.ifCond .le 154, 3) := by decide +kernel
theorem dX3_draw_50 : decode cX3_draw 50 = .ok (.aload_n 0, 1) := by decide +kernel
theorem dX3_draw_51 : decode cX3_draw 51 = .ok (.getfield 27, 3) := by decide +kernel
theorem dX3_draw_54 : decode cX3_draw 54 = .ok (.istore 4, 2) := by decide +kernel
theorem dX3_draw_56 : decode cX3_draw 56 = .ok (.aload_n 0, 1) := by decide +kernel
theorem dX3_draw_57 : decode cX3_draw 57 = .ok (.getfield 16, 3) := by decide +kernel
theorem dX3_draw_60 : decode cX3_draw 60 = .ok (.bipush 8, 2) := by decide +kernel
theorem dX3_draw_62 : decode cX3_draw 62 = .ok (.iload 4, 2) := by decide +kernel
theorem dX3_draw_64 : decode cX3_draw 64 = .ok (.iadd, 1) := by decide +kernel
theorem dX3_draw_65 : decode cX3_draw 65 = .ok (.daload, 1) := by decide +kernel
theorem dX3_draw_66 : decode cX3_draw 66 = .ok (.dstore 5, 2) := by decide +kernel
theorem dX3_draw_68 : decode cX3_draw 68 = .ok (.aload_n 0, 1) := by decide +kernel
theorem dX3_draw_69 : decode cX3_draw 69 = .ok (.dup, 1) := by decide +kernel
theorem dX3_draw_70 : decode cX3_draw 70 = .ok (.getfield 126, 3) := by decide +kernel
theorem dX3_draw_73 : decode cX3_draw 73 = .ok (.dload 5, 2) := by decide +kernel
theorem dX3_draw_75 : decode cX3_draw 75 = .ok (.ldc2_w 129, 3) := by decide +kernel
theorem dX3_draw_78 : decode cX3_draw 78 = .ok (.dcmp .g, 1) := by decide +kernel
theorem dX3_draw_79 : decode cX3_draw 79 = .ok (.ifCond .ge 7, 3) := by decide +kernel
theorem dX3_draw_82 : decode cX3_draw 82 = .ok (.iload_n 3, 1) := by decide +kernel
theorem dX3_draw_83 : decode cX3_draw 83 = .ok (.goto 4, 3) := by decide +kernel
theorem dX3_draw_86 : decode cX3_draw 86 = .ok (.iconst 0, 1) := by decide +kernel
theorem dX3_draw_87 : decode cX3_draw 87 = .ok (.iadd, 1) := by decide +kernel
theorem dX3_draw_88 : decode cX3_draw 88 = .ok (.putfield 126, 3) := by decide +kernel
theorem dX3_draw_91 : decode cX3_draw 91 = .ok (.aload_n 0, 1) := by decide +kernel
theorem dX3_draw_92 : decode cX3_draw 92 = .ok (.dup, 1) := by decide +kernel
theorem dX3_draw_93 : decode cX3_draw 93 = .ok (.getfield 131, 3) := by decide +kernel
theorem dX3_draw_96 : decode cX3_draw 96 = .ok (.dload 5, 2) := by decide +kernel
theorem dX3_draw_98 : decode cX3_draw 98 = .ok (.ldc2_w 129, 3) := by decide +kernel
theorem dX3_draw_101 : decode cX3_draw 101 = .ok (.dcmp .l, 1) := by decide +kernel
theorem dX3_draw_102 : decode cX3_draw 102 = .ok (.ifCond .lt 16, 3) := by decide +kernel
theorem dX3_draw_105 : decode cX3_draw 105 = .ok (.dload 5, 2) := by decide +kernel
theorem dX3_draw_107 : decode cX3_draw 107 = .ok (.ldc2_w 108, 3) := by decide +kernel
theorem dX3_draw_110 : decode cX3_draw 110 = .ok (.dcmp .g, 1) := by decide +kernel
theorem dX3_draw_111 : decode cX3_draw 111 = .ok (.ifCond .ge 7, 3) := by decide +kernel
theorem dX3_draw_114 : decode cX3_draw 114 = .ok (.iload_n 3, 1) := by decide +kernel
theorem dX3_draw_115 : decode cX3_draw 115 = .ok (.goto 4, 3) := by decide +kernel
theorem dX3_draw_118 : decode cX3_draw 118 = .ok (.iconst 0, 1) := by decide +kernel
theorem dX3_draw_119 : decode cX3_draw 119 = .ok (.iadd, 1) := by decide +kernel
theorem dX3_draw_120 : decode cX3_draw 120 = .ok (.putfield 131, 3) := by decide +kernel
theorem dX3_draw_123 : decode cX3_draw 123 = .ok (.aload_n 0, 1) := by decide +kernel
theorem dX3_draw_124 : decode cX3_draw 124 = .ok (.dup, 1) := by decide +kernel
theorem dX3_draw_125 : decode cX3_draw 125 = .ok (.getfield 134, 3) := by decide +kernel
theorem dX3_draw_128 : decode cX3_draw 128 = .ok (.dload 5, 2) := by decide +kernel
theorem dX3_draw_130 : decode cX3_draw 130 = .ok (.ldc2_w 108, 3) := by decide +kernel
theorem dX3_draw_133 : decode cX3_draw 133 = .ok (.dcmp .l, 1) := by decide +kernel
theorem dX3_draw_134 : decode cX3_draw 134 = .ok (.ifCond .lt 7, 3) := by decide +kernel
theorem dX3_draw_137 : decode cX3_draw 137 = .ok (.iload_n 3, 1) := by decide +kernel
theorem dX3_draw_138 : decode cX3_draw 138 = .ok (.goto 4, 3) := by decide +kernel
theorem dX3_draw_141 : decode cX3_draw 141 = .ok (.iconst 0, 1) := by decide +kernel
theorem dX3_draw_142 : decode cX3_draw 142 = .ok (.iadd, 1) := by decide +kernel
theorem dX3_draw_143 : decode cX3_draw 143 = .ok (.putfield 134, 3) := by decide +kernel
theorem dX3_draw_146 : decode cX3_draw 146 = .ok (.aload_n 0, 1) := by decide +kernel
theorem dX3_draw_147 : decode cX3_draw 147 = .ok (.aload_n 0, 1) := by decide +kernel
theorem dX3_draw_148 : decode cX3_draw 148 = .ok (.getfield 104, 3) := by decide +kernel
theorem dX3_draw_151 : decode cX3_draw 151 = .ok (.iload_n 3, 1) := by decide +kernel
theorem dX3_draw_152 : decode cX3_draw 152 = .ok (.i2d, 1) := by decide +kernel
theorem dX3_draw_153 : decode cX3_draw 153 = .ok (.ldc2_w 84, 3) := by decide +kernel
theorem dX3_draw_156 : decode cX3_draw 156 = .ok (.dmul, 1) := by decide +kernel
theorem dX3_draw_157 : decode cX3_draw 157 = .ok (.dsub, 1) := by decide +kernel
theorem dX3_draw_158 : decode cX3_draw 158 = .ok (.putfield 104, 3) := by decide +kernel
theorem dX3_draw_161 : decode cX3_draw 161 = .ok (.aload_n 0, 1) := by decide +kernel
theorem dX3_draw_162 : decode cX3_draw 162 = .ok (.getfield 16, 3) := by decide +kernel
theorem dX3_draw_165 : decode cX3_draw 165 = .ok (.iconst 0, 1) := by decide +kernel
theorem dX3_draw_166 : decode cX3_draw 166 = .ok (.iload 4, 2) := by decide +kernel
theorem dX3_draw_168 : decode cX3_draw 168 = .ok (.iadd, 1) := by decide +kernel
theorem dX3_draw_169 : decode cX3_draw 169 = .ok (.aload_n 0, 1) := by decide +kernel
theorem dX3_draw_170 : decode cX3_draw 170 = .ok (.getfield 16, 3) := by decide +kernel
theorem dX3_draw_173 : decode cX3_draw 173 = .ok (.iconst 0, 1) := by decide +kernel
theorem dX3_draw_174 : decode cX3_draw 174 = .ok (.iload 4, 2) := by decide +kernel
theorem dX3_draw_176 : decode cX3_draw 176 = .ok (.iadd, 1) := by decide +kernel
theorem dX3_draw_177 : decode cX3_draw 177 = .ok (.daload, 1) := by decide +kernel
theorem dX3_draw_178 : decode cX3_draw 178 = .ok (.iload_n 3, 1) := by decide +kernel
theorem dX3_draw_179 : decode cX3_draw 179 = .ok (.i2d, 1) := by decide +kernel
theorem dX3_draw_180 : decode cX3_draw 180 = .ok (.ldc2_w 84, 3) := by decide +kernel
theorem dX3_draw_183 : decode cX3_draw 183 = .ok (.dmul, 1) := by decide +kernel
theorem dX3_draw_184 : decode cX3_draw 184 = .ok (.dsub, 1) := by decide +kernel
theorem dX3_draw_185 : decode cX3_draw 185 = .ok (.dastore, 1) := by decide +kernel
theorem dX3_draw_186 : decode cX3_draw 186 = .ok (.aload_n 0, 1) := by decide +kernel
theorem dX3_draw_187 : decode cX3_draw 187 = .ok (.iload 4, 2) := by decide +kernel
theorem dX3_draw_189 : decode cX3_draw 189 = .ok (.invokevirtual 88, 3) := by decide +kernel
theorem dX3_draw_192 : decode cX3_draw 192 = .ok (.ifCond .eq 9, 3) := by decide +kernel
theorem dX3_draw_195 : decode cX3_draw 195 = .ok (.aload_n 0, 1) := by decide +kernel
theorem dX3_draw_196 : decode cX3_draw 196 = .ok (.iload 4, 2) := by decide +kernel
theorem dX3_draw_198 : decode cX3_draw 198 = .ok (.invokevirtual 137, 3) := by decide +kernel
theorem dX3_draw_201 : decode cX3_draw 201 = .ok (.iload_n 3, 1) := by decide +kernel
theorem dX3_draw_202 : decode cX3_draw 202 = .ok (.ireturn, 1) := by decide +kernel
set_option maxRecDepth 20000 in
theorem ggX3_pourAway_X3_isThere : GoodIn wsX3_pourAway wsX3_isThere := goodIn_r _ [6, 7, 8, 13, 14, 15, 16, 17, 18, 19, 20, 21, 22, 23, 24, 25] (by decide +kernel) (by decide +kernel)
set_option maxRecDepth 20000 in
theorem gX3_pourAway_X3_isThere : GoodIn wsX3_pourAway (wsV RX3 141 RX3 yX3_isThere wsX3_isThere) := goodIn_app (goodIn_of _ (by decide +kernel)) ggX3_pourAway_X3_isThere
set_option maxRecDepth 20000 in
theorem ggX3_pourAway_X3_empties : GoodIn wsX3_pourAway wsX3_empties := goodIn_r _ [12, 1, 13, 14, 15, 16, 17, 18, 19, 20, 21, 22, 23, 24, 25] (by decide +kernel) (by decide +kernel)
set_option maxRecDepth 20000 in
theorem gX3_pourAway_X3_empties : GoodIn wsX3_pourAway (wsV RX3 137 RX3 yX3_empties wsX3_empties) := goodIn_app (goodIn_of _ (by decide +kernel)) ggX3_pourAway_X3_empties
theorem dX3_pourAway_0 : decode cX3_pourAway 0 = .ok (.aload_n 0, 1) := by decide +kernel
theorem dX3_pourAway_1 : decode cX3_pourAway 1 = .ok (.iload_n 1, 1) := by decide +kernel
theorem dX3_pourAway_2 : decode cX3_pourAway 2 = .ok (.invokevirtual 141, 3) := by decide +kernel
theorem dX3_pourAway_5 : decode cX3_pourAway 5 = .ok (.ifCond .ne 5, 3) := by decide +kernel
theorem dX3_pourAway_8 : decode cX3_pourAway 8 = .ok (.dconst 0, 1) := by decide +kernel
theorem dX3_pourAway_9 : decode cX3_pourAway 9 = .ok (.dreturn, 1) := by decide +kernel
theorem dX3_pourAway_10 : decode cX3_pourAway 10 = .ok (.aload_n 0, 1) := by decide +kernel
theorem dX3_pourAway_11 : decode cX3_pourAway 11 = .ok (.getfield 16, 3) := by decide +kernel
theorem dX3_pourAway_14 : decode cX3_pourAway 14 = .ok (.iconst 0, 1) := by decide +kernel
theorem dX3_pourAway_15 : decode cX3_pourAway 15 = .ok (.iload_n 1, 1) := by decide +kernel
theorem dX3_pourAway_16 : decode cX3_pourAway 16 = .ok (.iadd, 1) := by decide +kernel
theorem dX3_pourAway_17 : decode cX3_pourAway 17 = .ok (.daload, 1) := by decide +kernel
theorem dX3_pourAway_18 : decode cX3_pourAway 18 = .ok (.dstore_n 2, 1) := by decide +kernel
theorem dX3_pourAway_19 : decode cX3_pourAway 19 = .ok (.aload_n 0, 1) := by decide +kernel
theorem dX3_pourAway_20 : decode cX3_pourAway 20 = .ok (.iload_n 1, 1) := by decide +kernel
theorem dX3_pourAway_21 : decode cX3_pourAway 21 = .ok (.invokevirtual 137, 3) := by decide +kernel
theorem dX3_pourAway_24 : decode cX3_pourAway 24 = .ok (.dload_n 2, 1) := by decide +kernel
theorem dX3_pourAway_25 : decode cX3_pourAway 25 = .ok (.dreturn, 1) := by decide +kernel
theorem dX3_setWarmth_0 : decode cX3_setWarmth 0 = .ok (.aload_n 0, 1) := by decide +kernel
theorem dX3_setWarmth_1 : decode cX3_setWarmth 1 = .ok (.iload_n 1, 1) := by decide +kernel
theorem dX3_setWarmth_2 : decode cX3_setWarmth 2 = .ok (.ifCond .lt 13, 3) := by decide +kernel
theorem dX3_setWarmth_5 : decode cX3_setWarmth 5 = .ok (.iload_n 1, 1) := by decide +kernel
theorem dX3_setWarmth_6 : decode cX3_setWarmth 6 = .ok (.bipush 40, 2) := by decide +kernel
theorem dX3_setWarmth_8 : decode cX3_setWarmth 8 = .ok (.if_icmp .gt 7, 3) := by decide +kernel
theorem dX3_setWarmth_11 : decode cX3_setWarmth 11 = .ok (.iconst 0, 1) := by decide +kernel
theorem dX3_setWarmth_12 : decode cX3_setWarmth 12 = .ok (.goto 4, 3) := by decide +kernel
theorem dX3_setWarmth_15 : decode cX3_setWarmth 15 = .ok (.iconst 1, 1) := by decide +kernel
theorem dX3_setWarmth_16 : decode cX3_setWarmth 16 = .ok (.putfield 30, 3) := by decide +kernel
theorem dX3_setWarmth_19 : decode cX3_setWarmth 19 = .ok (.aload_n 0, 1) := by decide +kernel
theorem dX3_setWarmth_20 : decode cX3_setWarmth 20 = .ok (.aload_n 0, 1) := by decide +kernel
theorem dX3_setWarmth_21 : decode cX3_setWarmth 21 = .ok (.getfield 30, 3) := by decide +kernel
theorem dX3_setWarmth_24 : decode cX3_setWarmth 24 = .ok (.ifCond .ne 7, 3) := by decide +kernel
theorem dX3_setWarmth_27 : decode cX3_setWarmth 27 = .ok (.iload_n 1, 1) := by decide +kernel
theorem dX3_setWarmth_28 : decode cX3_setWarmth 28 = .ok (.goto 7, 3) := by decide +kernel
theorem dX3_setWarmth_31 : decode cX3_setWarmth 31 = .ok (.aload_n 0, 1) := by decide +kernel
theorem dX3_setWarmth_32 : decode cX3_setWarmth 32 = .ok (.getfield 23, 3) := by decide +kernel
theorem dX3_setWarmth_35 : decode cX3_setWarmth 35 = .ok (.putfield 23, 3) := by decide +kernel
theorem dX3_setWarmth_38 : decode cX3_setWarmth 38 = .ok (.return_, 1) := by decide +kernel
theorem dX3_barrels_0 : decode cX3_barrels 0 = .ok (.aload_n 0, 1) := by decide +kernel
theorem dX3_barrels_1 : decode cX3_barrels 1 = .ok (.iconst 0, 1) := by decide +kernel
theorem dX3_barrels_2 : decode cX3_barrels 2 = .ok (.putfield 30, 3) := by decide +kernel
theorem dX3_barrels_5 : decode cX3_barrels 5 = .ok (.aload_n 0, 1) := by decide +kernel
theorem dX3_barrels_6 : decode cX3_barrels 6 = .ok (.getfield 33, 3) := by decide +kernel
theorem dX3_barrels_9 : decode cX3_barrels 9 = .ok (.ireturn, 1) := by decide +kernel
set_option maxRecDepth 20000 in
theorem ggX3_of_X3_isThere : GoodIn wsX3_of wsX3_isThere := goodIn_r _ [6, 7, 8, 9, 10, 11, 12, 13, 14, 15, 16, 17, 18, 19, 20, 21] (by decide +kernel) (by decide +kernel)
set_option maxRecDepth 20000 in
theorem gX3_of_X3_isThere : GoodIn wsX3_of (wsV RX3 141 RX3 yX3_isThere wsX3_isThere) := goodIn_app (goodIn_of _ (by decide +kernel)) ggX3_of_X3_isThere
theorem dX3_of_0 : decode cX3_of 0 = .ok (.aload_n 0, 1) := by decide +kernel
theorem dX3_of_1 : decode cX3_of 1 = .ok (.iload_n 1, 1) := by decide +kernel
theorem dX3_of_2 : decode cX3_of 2 = .ok (.invokevirtual 141, 3) := by decide +kernel
theorem dX3_of_5 : decode cX3_of 5 = .ok (.ifCond .eq 14, 3) := by decide +kernel
theorem dX3_of_8 : decode cX3_of 8 = .ok (.aload_n 0, 1) := by decide +kernel
theorem dX3_of_9 : decode cX3_of 9 = .ok (.getfield 16, 3) := by decide +kernel
theorem dX3_of_12 : decode cX3_of 12 = .ok (.iload_n 2, 1) := by decide +kernel
theorem dX3_of_13 : decode cX3_of 13 = .ok (.iload_n 1, 1) := by decide +kernel
theorem dX3_of_14 : decode cX3_of 14 = .ok (.iadd, 1) := by decide +kernel
theorem dX3_of_15 : decode cX3_of 15 = .ok (.daload, 1) := by decide +kernel
theorem dX3_of_16 : decode cX3_of 16 = .ok (.goto 4, 3) := by decide +kernel
theorem dX3_of_19 : decode cX3_of 19 = .ok (.dconst 0, 1) := by decide +kernel
theorem dX3_of_20 : decode cX3_of 20 = .ok (.dreturn, 1) := by decide +kernel
set_option maxRecDepth 20000 in
theorem ggX3_litresIn_X3_of : GoodIn wsX3_litresIn wsX3_of := goodIn_r _ [5, 6, 7, 8, 9, 4, 10, 11, 12, 13, 14, 15, 16, 17, 18, 19, 20, 21, 22, 23, 24, 25] (by decide +kernel) (by decide +kernel)
set_option maxRecDepth 20000 in
theorem gX3_litresIn_X3_of : GoodIn wsX3_litresIn (wsV RX3 144 RX3 yX3_of wsX3_of) := goodIn_app (goodIn_of _ (by decide +kernel)) ggX3_litresIn_X3_of
theorem dX3_litresIn_0 : decode cX3_litresIn 0 = .ok (.aload_n 0, 1) := by decide +kernel
theorem dX3_litresIn_1 : decode cX3_litresIn 1 = .ok (.iload_n 1, 1) := by decide +kernel
theorem dX3_litresIn_2 : decode cX3_litresIn 2 = .ok (.iconst 0, 1) := by decide +kernel
theorem dX3_litresIn_3 : decode cX3_litresIn 3 = .ok (.invokevirtual 144, 3) := by decide +kernel
theorem dX3_litresIn_6 : decode cX3_litresIn 6 = .ok (.dreturn, 1) := by decide +kernel
set_option maxRecDepth 20000 in
theorem ggX3_ageOf_X3_of : GoodIn wsX3_ageOf wsX3_of := goodIn_r _ [5, 6, 7, 8, 9, 4, 10, 11, 12, 13, 14, 15, 16, 17, 18, 19, 20, 21, 22, 23, 24, 25] (by decide +kernel) (by decide +kernel)
set_option maxRecDepth 20000 in
theorem gX3_ageOf_X3_of : GoodIn wsX3_ageOf (wsV RX3 144 RX3 yX3_of wsX3_of) := goodIn_app (goodIn_of _ (by decide +kernel)) ggX3_ageOf_X3_of
theorem dX3_ageOf_0 : decode cX3_ageOf 0 = .ok (.aload_n 0, 1) := by decide +kernel
theorem dX3_ageOf_1 : decode cX3_ageOf 1 = .ok (.iload_n 1, 1) := by decide +kernel
theorem dX3_ageOf_2 : decode cX3_ageOf 2 = .ok (.bipush 8, 2) := by decide +kernel
theorem dX3_ageOf_4 : decode cX3_ageOf 4 = .ok (.invokevirtual 144, 3) := by decide +kernel
theorem dX3_ageOf_7 : decode cX3_ageOf 7 = .ok (.dreturn, 1) := by decide +kernel
set_option maxRecDepth 20000 in
theorem ggX3_acidOf_X3_of : GoodIn wsX3_acidOf wsX3_of := goodIn_r _ [5, 6, 7, 8, 9, 4, 10, 11, 12, 13, 14, 15, 16, 17, 18, 19, 20, 21, 22, 23, 24, 25] (by decide +kernel) (by decide +kernel)
set_option maxRecDepth 20000 in
theorem gX3_acidOf_X3_of : GoodIn wsX3_acidOf (wsV RX3 144 RX3 yX3_of wsX3_of) := goodIn_app (goodIn_of _ (by decide +kernel)) ggX3_acidOf_X3_of
theorem dX3_acidOf_0 : decode cX3_acidOf 0 = .ok (.aload_n 0, 1) := by decide +kernel
theorem dX3_acidOf_1 : decode cX3_acidOf 1 = .ok (.iload_n 1, 1) := by decide +kernel
theorem dX3_acidOf_2 : decode cX3_acidOf 2 = .ok (.bipush 16, 2) := by decide +kernel
theorem dX3_acidOf_4 : decode cX3_acidOf 4 = .ok (.invokevirtual 144, 3) := by decide +kernel
theorem dX3_acidOf_7 : decode cX3_acidOf 7 = .ok (.dreturn, 1) := by decide +kernel
set_option maxRecDepth 20000 in
theorem ggX3_sugarOf_X3_of : GoodIn wsX3_sugarOf wsX3_of := goodIn_r _ [5, 6, 7, 8, 9, 4, 10, 11, 12, 13, 14, 15, 16, 17, 18, 19, 20, 21, 22, 23, 24, 25] (by decide +kernel) (by decide +kernel)
set_option maxRecDepth 20000 in
theorem gX3_sugarOf_X3_of : GoodIn wsX3_sugarOf (wsV RX3 144 RX3 yX3_of wsX3_of) := goodIn_app (goodIn_of _ (by decide +kernel)) ggX3_sugarOf_X3_of
theorem dX3_sugarOf_0 : decode cX3_sugarOf 0 = .ok (.aload_n 0, 1) := by decide +kernel
theorem dX3_sugarOf_1 : decode cX3_sugarOf 1 = .ok (.iload_n 1, 1) := by decide +kernel
theorem dX3_sugarOf_2 : decode cX3_sugarOf 2 = .ok (.bipush 24, 2) := by decide +kernel
theorem dX3_sugarOf_4 : decode cX3_sugarOf 4 = .ok (.invokevirtual 144, 3) := by decide +kernel
theorem dX3_sugarOf_7 : decode cX3_sugarOf 7 = .ok (.dreturn, 1) := by decide +kernel
set_option maxRecDepth 20000 in
theorem ggX3_tasteOf_X3_isThere : GoodIn wsX3_tasteOf wsX3_isThere := goodIn_r _ [10, 11, 12, 17, 18, 19, 20, 21, 22, 23, 24, 25, 26, 27, 28, 29] (by decide +kernel) (by decide +kernel)
set_option maxRecDepth 20000 in
theorem gX3_tasteOf_X3_isThere : GoodIn wsX3_tasteOf (wsV RX3 141 RX3 yX3_isThere wsX3_isThere) := goodIn_app (goodIn_of _ (by decide +kernel)) ggX3_tasteOf_X3_isThere
set_option maxRecDepth 20000 in
theorem ggX3_tasteOf_X3_isEmpty : GoodIn wsX3_tasteOf wsX3_isEmpty := goodIn_r _ [16, 1, 17, 18, 19, 20, 21, 22, 23, 24, 25, 26, 27, 28, 29] (by decide +kernel) (by decide +kernel)
set_option maxRecDepth 20000 in
theorem gX3_tasteOf_X3_isEmpty : GoodIn wsX3_tasteOf (wsV RX3 88 RX3 yX3_isEmpty wsX3_isEmpty) := goodIn_app (goodIn_of _ (by decide +kernel)) ggX3_tasteOf_X3_isEmpty
theorem dX3_tasteOf_0 : decode cX3_tasteOf 0 = .ok (.aload_n 0, 1) := by decide +kernel
theorem dX3_tasteOf_1 : decode cX3_tasteOf 1 = .ok (.iload_n 1, 1) := by decide +kernel
theorem dX3_tasteOf_2 : decode cX3_tasteOf 2 = .ok (.invokevirtual 141, 3) := by decide +kernel
theorem dX3_tasteOf_5 : decode cX3_tasteOf 5 = .ok (.ifCond .eq 11, 3) := by decide +kernel
theorem dX3_tasteOf_8 : decode cX3_tasteOf 8 = .ok (.aload_n 0, 1) := by decide +kernel
theorem dX3_tasteOf_9 : decode cX3_tasteOf 9 = .ok (.iload_n 1, 1) := by decide +kernel
theorem dX3_tasteOf_10 : decode cX3_tasteOf 10 = .ok (.invokevirtual 88, 3) := by decide +kernel
theorem dX3_tasteOf_13 : decode cX3_tasteOf 13 = .ok (.ifCond .eq 5, 3) := by decide +kernel
theorem dX3_tasteOf_16 : decode cX3_tasteOf 16 = .ok (.dconst 0, 1) := by decide +kernel
theorem dX3_tasteOf_17 : decode cX3_tasteOf 17 = .ok (.dreturn, 1) := by decide +kernel
theorem dX3_tasteOf_18 : decode cX3_tasteOf 18 = .ok (.aload_n 0, 1) := by decide +kernel
theorem dX3_tasteOf_19 : decode cX3_tasteOf 19 = .ok (.getfield 16, 3) := by decide +kernel
theorem dX3_tasteOf_22 : decode cX3_tasteOf 22 = .ok (.bipush 16, 2) := by decide +kernel
theorem dX3_tasteOf_24 : decode cX3_tasteOf 24 = .ok (.iload_n 1, 1) := by decide +kernel
theorem dX3_tasteOf_25 : decode cX3_tasteOf 25 = .ok (.iadd, 1) := by decide +kernel
theorem dX3_tasteOf_26 : decode cX3_tasteOf 26 = .ok (.daload, 1) := by decide +kernel
theorem dX3_tasteOf_27 : decode cX3_tasteOf 27 = .ok (.ldc2_w 148, 3) := by decide +kernel
theorem dX3_tasteOf_30 : decode cX3_tasteOf 30 = .ok (.dsub, 1) := by decide +kernel
theorem dX3_tasteOf_31 : decode cX3_tasteOf 31 = .ok (.dstore_n 2, 1) := by decide +kernel
theorem dX3_tasteOf_32 : decode cX3_tasteOf 32 = .ok (.ldc2_w 48, 3) := by decide +kernel
theorem dX3_tasteOf_35 : decode cX3_tasteOf 35 = .ok (.aload_n 0, 1) := by decide +kernel
theorem dX3_tasteOf_36 : decode cX3_tasteOf 36 = .ok (.getfield 16, 3) := by decide +kernel
theorem dX3_tasteOf_39 : decode cX3_tasteOf 39 = .ok (.bipush 8, 2) := by decide +kernel
theorem dX3_tasteOf_41 : decode cX3_tasteOf 41 = .ok (.iload_n 1, 1) := by decide +kernel
theorem dX3_tasteOf_42 : decode cX3_tasteOf 42 = .ok (.iadd, 1) := by decide +kernel
theorem dX3_tasteOf_43 : decode cX3_tasteOf 43 = .ok (.daload, 1) := by decide +kernel
theorem dX3_tasteOf_44 : decode cX3_tasteOf 44 = .ok (.dmul, 1) := by decide +kernel
theorem dX3_tasteOf_45 : decode cX3_tasteOf 45 = .ok (.ldc2_w 82, 3) := by decide +kernel
theorem dX3_tasteOf_48 : decode cX3_tasteOf 48 = .ok (.aload_n 0, 1) := by decide +kernel
theorem dX3_tasteOf_49 : decode cX3_tasteOf 49 = .ok (.getfield 16, 3) := by decide +kernel
theorem dX3_tasteOf_52 : decode cX3_tasteOf 52 = .ok (.bipush 24, 2) := by decide +kernel
theorem dX3_tasteOf_54 : decode cX3_tasteOf 54 = .ok (.iload_n 1, 1) := by decide +kernel
theorem dX3_tasteOf_55 : decode cX3_tasteOf 55 = .ok (.iadd, 1) := by decide +kernel
theorem dX3_tasteOf_56 : decode cX3_tasteOf 56 = .ok (.daload, 1) := by decide +kernel
theorem dX3_tasteOf_57 : decode cX3_tasteOf 57 = .ok (.dmul, 1) := by decide +kernel
theorem dX3_tasteOf_58 : decode cX3_tasteOf 58 = .ok (.dadd, 1) := by decide +kernel
theorem dX3_tasteOf_59 : decode cX3_tasteOf 59 = .ok (.ldc2_w 150, 3) := by decide +kernel
theorem dX3_tasteOf_62 : decode cX3_tasteOf 62 = .ok (.dload_n 2, 1) := by decide +kernel
theorem dX3_tasteOf_63 : decode cX3_tasteOf 63 = .ok (.dconst 0, 1) := by decide +kernel
theorem dX3_tasteOf_64 : decode cX3_tasteOf 64 = .ok (.dcmp .g, 1) := by decide +kernel
theorem dX3_tasteOf_65 : decode cX3_tasteOf 65 = .ok (.ifCond .ge 8, 3) := by decide +kernel
theorem dX3_tasteOf_68 : decode cX3_tasteOf 68 = .ok (.dload_n 2, 1) := by decide +kernel
theorem dX3_tasteOf_69 : decode cX3_tasteOf 69 = .ok (.dneg, 1) := by decide +kernel
theorem dX3_tasteOf_70 : decode cX3_tasteOf 70 = .ok (.goto 4, 3) := by decide +kernel
theorem dX3_tasteOf_73 : decode cX3_tasteOf 73 = .ok (.dload_n 2, 1) := by decide +kernel
theorem dX3_tasteOf_74 : decode cX3_tasteOf 74 = .ok (.dmul, 1) := by decide +kernel
theorem dX3_tasteOf_75 : decode cX3_tasteOf 75 = .ok (.dsub, 1) := by decide +kernel
theorem dX3_tasteOf_76 : decode cX3_tasteOf 76 = .ok (.dreturn, 1) := by decide +kernel
set_option maxRecDepth 20000 in
theorem ggX3_oldest_X3_oldestNow : GoodIn wsX3_oldest wsX3_oldestNow := goodIn_r _ [6, 7, 8, 9, 10, 11, 5, 12, 13, 14, 15, 16, 17, 18, 19, 20, 21, 22, 23, 24, 25] (by decide +kernel) (by decide +kernel)
set_option maxRecDepth 20000 in
theorem gX3_oldest_X3_oldestNow : GoodIn wsX3_oldest (wsV RX3 98 RX3 yX3_oldestNow wsX3_oldestNow) := goodIn_app (goodIn_of _ (by decide +kernel)) ggX3_oldest_X3_oldestNow
theorem dX3_oldest_0 : decode cX3_oldest 0 = .ok (.aload_n 0, 1) := by decide +kernel
theorem dX3_oldest_1 : decode cX3_oldest 1 = .ok (.iconst 0, 1) := by decide +kernel
theorem dX3_oldest_2 : decode cX3_oldest 2 = .ok (.putfield 30, 3) := by decide +kernel
theorem dX3_oldest_5 : decode cX3_oldest 5 = .ok (.aload_n 0, 1) := by decide +kernel
theorem dX3_oldest_6 : decode cX3_oldest 6 = .ok (.invokevirtual 98, 3) := by decide +kernel
theorem dX3_oldest_9 : decode cX3_oldest 9 = .ok (.ireturn, 1) := by decide +kernel
set_option maxRecDepth 20000 in
theorem ggX3_drawable_X3_bottlesNow : GoodIn wsX3_drawable wsX3_bottlesNow := goodIn_r _ [6, 7, 8, 9, 10, 11, 12, 13, 14, 15, 5, 16, 17, 18, 19, 20, 21, 22, 23, 24, 25, 26, 27, 28, 29, 30, 31, 32, 33, 34, 35, 36, 37] (by decide +kernel) (by decide +kernel)
set_option maxRecDepth 20000 in
theorem gX3_drawable_X3_bottlesNow : GoodIn wsX3_drawable (wsV RX3 123 RX3 yX3_bottlesNow wsX3_bottlesNow) := goodIn_app (goodIn_of _ (by decide +kernel)) ggX3_drawable_X3_bottlesNow
theorem dX3_drawable_0 : decode cX3_drawable 0 = .ok (.aload_n 0, 1) := by decide +kernel
theorem dX3_drawable_1 : decode cX3_drawable 1 = .ok (.iconst 0, 1) := by decide +kernel
theorem dX3_drawable_2 : decode cX3_drawable 2 = .ok (.putfield 30, 3) := by decide +kernel
theorem dX3_drawable_5 : decode cX3_drawable 5 = .ok (.aload_n 0, 1) := by decide +kernel
theorem dX3_drawable_6 : decode cX3_drawable 6 = .ok (.invokevirtual 123, 3) := by decide +kernel
theorem dX3_drawable_9 : decode cX3_drawable 9 = .ok (.ireturn, 1) := by decide +kernel
theorem dX3_bottles_0 : decode cX3_bottles 0 = .ok (.aload_n 0, 1) := by decide +kernel
theorem dX3_bottles_1 : decode cX3_bottles 1 = .ok (.iload_n 1, 1) := by decide +kernel
theorem dX3_bottles_2 : decode cX3_bottles 2 = .ok (.ifCond .lt 12, 3) := by decide +kernel
theorem dX3_bottles_5 : decode cX3_bottles 5 = .ok (.iload_n 1, 1) := by decide +kernel
theorem dX3_bottles_6 : decode cX3_bottles 6 = .ok (.iconst 2, 1) := by decide +kernel
theorem dX3_bottles_7 : decode cX3_bottles 7 = .ok (.if_icmp .gt 7, 3) := by decide +kernel
theorem dX3_bottles_10 : decode cX3_bottles 10 = .ok (.iconst 0, 1) := by decide +kernel
theorem dX3_bottles_11 : decode cX3_bottles 11 = .ok (.goto 4, 3) := by decide +kernel
theorem dX3_bottles_14 : decode cX3_bottles 14 = .ok (.iconst 1, 1) := by decide +kernel
theorem dX3_bottles_15 : decode cX3_bottles 15 = .ok (.putfield 30, 3) := by decide +kernel
theorem dX3_bottles_18 : decode cX3_bottles 18 = .ok (.aload_n 0, 1) := by decide +kernel
theorem dX3_bottles_19 : decode cX3_bottles 19 = .ok (.getfield 30, 3) := by decide +kernel
theorem dX3_bottles_22 : decode cX3_bottles 22 = .ok (.ifCond .eq 7, 3) := by decide +kernel
theorem dX3_bottles_25 : decode cX3_bottles 25 = .ok (.iconst 0, 1) := by decide +kernel
theorem dX3_bottles_26 : decode cX3_bottles 26 = .ok (.goto 30, 3) := by decide +kernel
theorem dX3_bottles_29 : decode cX3_bottles 29 = .ok (.iload_n 1, 1) := by decide +kernel
theorem dX3_bottles_30 : decode cX3_bottles 30 = .ok (.ifCond .ne 10, 3) := by decide +kernel
theorem dX3_bottles_33 : decode cX3_bottles 33 = .ok (.aload_n 0, 1) := by decide +kernel
theorem dX3_bottles_34 : decode cX3_bottles 34 = .ok (.getfield 126, 3) := by decide +kernel
theorem dX3_bottles_37 : decode cX3_bottles 37 = .ok (.goto 19, 3) := by decide +kernel
theorem dX3_bottles_40 : decode cX3_bottles 40 = .ok (.iload_n 1, 1) := by decide +kernel
theorem dX3_bottles_41 : decode cX3_bottles 41 = .ok (.iconst 1, 1) := by decide +kernel
theorem dX3_bottles_42 : decode cX3_bottles 42 = .ok (.if_icmp .ne 10, 3) := by decide +kernel
theorem dX3_bottles_45 : decode cX3_bottles 45 = .ok (.aload_n 0, 1) := by decide +kernel
theorem dX3_bottles_46 : decode cX3_bottles 46 = .ok (.getfield 131, 3) := by decide +kernel
theorem dX3_bottles_49 : decode cX3_bottles 49 = .ok (.goto 7, 3) := by decide +kernel
theorem dX3_bottles_52 : decode cX3_bottles 52 = .ok (.aload_n 0, 1) := by decide +kernel
theorem dX3_bottles_53 : decode cX3_bottles 53 = .ok (.getfield 134, 3) := by decide +kernel
theorem dX3_bottles_56 : decode cX3_bottles 56 = .ok (.ireturn, 1) := by decide +kernel
theorem dX3_years_0 : decode cX3_years 0 = .ok (.aload_n 0, 1) := by decide +kernel
theorem dX3_years_1 : decode cX3_years 1 = .ok (.iconst 0, 1) := by decide +kernel
theorem dX3_years_2 : decode cX3_years 2 = .ok (.putfield 30, 3) := by decide +kernel
theorem dX3_years_5 : decode cX3_years 5 = .ok (.aload_n 0, 1) := by decide +kernel
theorem dX3_years_6 : decode cX3_years 6 = .ok (.getfield 95, 3) := by decide +kernel
theorem dX3_years_9 : decode cX3_years 9 = .ok (.ireturn, 1) := by decide +kernel
set_option maxRecDepth 20000 in
theorem ggX3_mean_X3_isEmpty : GoodIn wsX3_mean wsX3_isEmpty := goodIn_r _ [8, 3, 9, 10, 11, 12, 13, 14, 15, 16, 17, 18, 19, 20, 21] (by decide +kernel) (by decide +kernel)
set_option maxRecDepth 20000 in
theorem gX3_mean_X3_isEmpty : GoodIn wsX3_mean (wsV RX3 88 RX3 yX3_isEmpty wsX3_isEmpty) := goodIn_app (goodIn_of _ (by decide +kernel)) ggX3_mean_X3_isEmpty
theorem dX3_mean_0 : decode cX3_mean 0 = .ok (.aload_n 0, 1) := by decide +kernel
theorem dX3_mean_1 : decode cX3_mean 1 = .ok (.iconst 0, 1) := by decide +kernel
theorem dX3_mean_2 : decode cX3_mean 2 = .ok (.putfield 30, 3) := by decide +kernel
theorem dX3_mean_5 : decode cX3_mean 5 = .ok (.dconst 0, 1) := by decide +kernel
theorem dX3_mean_6 : decode cX3_mean 6 = .ok (.dstore_n 2, 1) := by decide +kernel
theorem dX3_mean_7 : decode cX3_mean 7 = .ok (.dconst 0, 1) := by decide +kernel
theorem dX3_mean_8 : decode cX3_mean 8 = .ok (.dstore 4, 2) := by decide +kernel
theorem dX3_mean_10 : decode cX3_mean 10 = .ok (.iconst 0, 1) := by decide +kernel
theorem dX3_mean_11 : decode cX3_mean 11 = .ok (.istore 6, 2) := by decide +kernel
theorem dX3_mean_13 : decode cX3_mean 13 = .ok (.iconst 0, 1) := by decide +kernel
theorem dX3_mean_14 : decode cX3_mean 14 = .ok (.istore 7, 2) := by decide +kernel
theorem dX3_mean_16 : decode cX3_mean 16 = .ok (.iload 7, 2) := by decide +kernel
theorem dX3_mean_18 : decode cX3_mean 18 = .ok (.aload_n 0, 1) := by decide +kernel
theorem dX3_mean_19 : decode cX3_mean 19 = .ok (.getfield 33, 3) := by decide +kernel
theorem dX3_mean_22 : decode cX3_mean 22 = .ok (.if_icmp .ge 66, 3) := by decide +kernel
theorem dX3_mean_25 : decode cX3_mean 25 = .ok (.iload 6, 2) := by decide +kernel
theorem dX3_mean_27 : decode cX3_mean 27 = .ok (.ifCond .ne 12, 3) := by decide +kernel
theorem dX3_mean_30 : decode cX3_mean 30 = .ok (.aload_n 0, 1) := by decide +kernel
theorem dX3_mean_31 : decode cX3_mean 31 = .ok (.iload 7, 2) := by decide +kernel
theorem dX3_mean_33 : decode cX3_mean 33 = .ok (.invokevirtual 88, 3) := by decide +kernel
theorem dX3_mean_36 : decode cX3_mean 36 = .ok (.ifCond .ne 7, 3) := by decide +kernel
theorem dX3_mean_39 : decode cX3_mean 39 = .ok (.iconst 1, 1) := by decide +kernel
end
section
theorem dX3_mean_40 : decode cX3_mean 40 = .ok (.goto 4, 3) := by decide +kernel
theorem dX3_mean_43 : decode cX3_mean 43 = .ok (.iconst 0, 1) := by decide +kernel
theorem dX3_mean_44 : decode cX3_mean 44 = .ok (.istore 6, 2) := by decide +kernel
theorem dX3_mean_46 : decode cX3_mean 46 = .ok (.dload 4, 2) := by decide +kernel
theorem dX3_mean_48 : decode cX3_mean 48 = .ok (.aload_n 0, 1) := by decide +kernel
theorem dX3_mean_49 : decode cX3_mean 49 = .ok (.getfield 16, 3) := by decide +kernel
theorem dX3_mean_52 : decode cX3_mean 52 = .ok (.iconst 0, 1) := by decide +kernel
theorem dX3_mean_53 : decode cX3_mean 53 = .ok (.iload 7, 2) := by decide +kernel
theorem dX3_mean_55 : decode cX3_mean 55 = .ok (.iadd, 1) := by decide +kernel
theorem dX3_mean_56 : decode cX3_mean 56 = .ok (.daload, 1) := by decide +kernel
theorem dX3_mean_57 : decode cX3_mean 57 = .ok (.aload_n 0, 1) := by decide +kernel
theorem dX3_mean_58 : decode cX3_mean 58 = .ok (.getfield 16, 3) := by decide +kernel
theorem dX3_mean_61 : decode cX3_mean 61 = .ok (.iload_n 1, 1) := by decide +kernel
theorem dX3_mean_62 : decode cX3_mean 62 = .ok (.iload 7, 2) := by decide +kernel
theorem dX3_mean_64 : decode cX3_mean 64 = .ok (.iadd, 1) := by decide +kernel
theorem dX3_mean_65 : decode cX3_mean 65 = .ok (.daload, 1) := by decide +kernel
theorem dX3_mean_66 : decode cX3_mean 66 = .ok (.dmul, 1) := by decide +kernel
theorem dX3_mean_67 : decode cX3_mean 67 = .ok (.dadd, 1) := by decide +kernel
theorem dX3_mean_68 : decode cX3_mean 68 = .ok (.dstore 4, 2) := by decide +kernel
theorem dX3_mean_70 : decode cX3_mean 70 = .ok (.dload_n 2, 1) := by decide +kernel
theorem dX3_mean_71 : decode cX3_mean 71 = .ok (.aload_n 0, 1) := by decide +kernel
theorem dX3_mean_72 : decode cX3_mean 72 = .ok (.getfield 16, 3) := by decide +kernel
theorem dX3_mean_75 : decode cX3_mean 75 = .ok (.iconst 0, 1) := by decide +kernel
theorem dX3_mean_76 : decode cX3_mean 76 = .ok (.iload 7, 2) := by decide +kernel
theorem dX3_mean_78 : decode cX3_mean 78 = .ok (.iadd, 1) := by decide +kernel
theorem dX3_mean_79 : decode cX3_mean 79 = .ok (.daload, 1) := by decide +kernel
theorem dX3_mean_80 : decode cX3_mean 80 = .ok (.dadd, 1) := by decide +kernel
theorem dX3_mean_81 : decode cX3_mean 81 = .ok (.dstore_n 2, 1) := by decide +kernel
theorem dX3_mean_82 : decode cX3_mean 82 = .ok (.iinc 7 1, 3) := by decide +kernel
theorem dX3_mean_85 : decode cX3_mean 85 = .ok (.goto (-69), 3) := by decide +kernel
theorem dX3_mean_88 : decode cX3_mean 88 = .ok (.iload 6, 2) := by decide +kernel
theorem dX3_mean_90 : decode cX3_mean 90 = .ok (.ifCond .eq 10, 3) := by decide +kernel
theorem dX3_mean_93 : decode cX3_mean 93 = .ok (.dload 4, 2) := by decide +kernel
theorem dX3_mean_95 : decode cX3_mean 95 = .ok (.dload_n 2, 1) := by decide +kernel
theorem dX3_mean_96 : decode cX3_mean 96 = .ok (.ddiv, 1) := by decide +kernel
theorem dX3_mean_97 : decode cX3_mean 97 = .ok (.goto 4, 3) := by decide +kernel
theorem dX3_mean_100 : decode cX3_mean 100 = .ok (.dconst 0, 1) := by decide +kernel
theorem dX3_mean_101 : decode cX3_mean 101 = .ok (.dreturn, 1) := by decide +kernel
set_option maxRecDepth 20000 in
theorem ggX3_meanAge_X3_mean : GoodIn wsX3_meanAge wsX3_mean := goodIn_r _ [5, 6, 7, 8, 9, 10, 11, 4, 12, 13, 14, 15, 16, 17, 18, 19, 20, 21, 22, 23, 24, 25] (by decide +kernel) (by decide +kernel)
set_option maxRecDepth 20000 in
theorem gX3_meanAge_X3_mean : GoodIn wsX3_meanAge (wsV RX3 152 RX3 yX3_mean wsX3_mean) := goodIn_app (goodIn_of _ (by decide +kernel)) ggX3_meanAge_X3_mean
theorem dX3_meanAge_0 : decode cX3_meanAge 0 = .ok (.aload_n 0, 1) := by decide +kernel
theorem dX3_meanAge_1 : decode cX3_meanAge 1 = .ok (.bipush 8, 2) := by decide +kernel
theorem dX3_meanAge_3 : decode cX3_meanAge 3 = .ok (.invokevirtual 152, 3) := by decide +kernel
theorem dX3_meanAge_6 : decode cX3_meanAge 6 = .ok (.dreturn, 1) := by decide +kernel
set_option maxRecDepth 20000 in
theorem ggX3_meanSugar_X3_mean : GoodIn wsX3_meanSugar wsX3_mean := goodIn_r _ [5, 6, 7, 8, 9, 10, 11, 4, 12, 13, 14, 15, 16, 17, 18, 19, 20, 21, 22, 23, 24, 25] (by decide +kernel) (by decide +kernel)
set_option maxRecDepth 20000 in
theorem gX3_meanSugar_X3_mean : GoodIn wsX3_meanSugar (wsV RX3 152 RX3 yX3_mean wsX3_mean) := goodIn_app (goodIn_of _ (by decide +kernel)) ggX3_meanSugar_X3_mean
theorem dX3_meanSugar_0 : decode cX3_meanSugar 0 = .ok (.aload_n 0, 1) := by decide +kernel
theorem dX3_meanSugar_1 : decode cX3_meanSugar 1 = .ok (.bipush 24, 2) := by decide +kernel
theorem dX3_meanSugar_3 : decode cX3_meanSugar 3 = .ok (.invokevirtual 152, 3) := by decide +kernel
theorem dX3_meanSugar_6 : decode cX3_meanSugar 6 = .ok (.dreturn, 1) := by decide +kernel
set_option maxRecDepth 20000 in
theorem ggX3_firstBottleIn_X3_bottlesNow : GoodIn wsX3_firstBottleIn wsX3_bottlesNow := goodIn_r _ [12, 6, 4, 13, 14, 7, 15, 16, 17, 18, 11, 19, 2, 20, 21, 22, 23, 24, 25, 26, 80, 81, 82, 83, 84, 85, 86, 87, 88, 89, 90, 91, 92] (by decide +kernel) (by decide +kernel)
set_option maxRecDepth 20000 in
theorem gX3_firstBottleIn_X3_bottlesNow : GoodIn wsX3_firstBottleIn (wsV RX3 123 RX3 yX3_bottlesNow wsX3_bottlesNow) := goodIn_app (goodIn_of _ (by decide +kernel)) ggX3_firstBottleIn_X3_bottlesNow
set_option maxRecDepth 20000 in
theorem ggX3_firstBottleIn_X3_room : GoodIn wsX3_firstBottleIn wsX3_room := goodIn_r _ [30, 31, 4, 80, 81, 82, 83, 84, 85, 86, 87, 88, 89, 90, 91, 92] (by decide +kernel) (by decide +kernel)
set_option maxRecDepth 20000 in
theorem gX3_firstBottleIn_X3_room : GoodIn wsX3_firstBottleIn (wsV RX3 110 RX3 yX3_room wsX3_room) := goodIn_app (goodIn_of _ (by decide +kernel)) ggX3_firstBottleIn_X3_room
set_option maxRecDepth 20000 in
theorem ggX3_firstBottleIn_X3_pours : GoodIn wsX3_firstBottleIn wsX3_pours := goodIn_r _ [35, 36, 37, 38, 39, 11, 40, 4, 41, 42, 43, 44, 80, 81, 82, 83, 84, 85, 86, 87, 88, 89, 90, 91, 92] (by decide +kernel) (by decide +kernel)
set_option maxRecDepth 20000 in
theorem gX3_firstBottleIn_X3_pours : GoodIn wsX3_firstBottleIn (wsV RX3 113 RX3 yX3_pours wsX3_pours) := goodIn_app (goodIn_of _ (by decide +kernel)) ggX3_firstBottleIn_X3_pours
set_option maxRecDepth 20000 in
theorem ggX3_firstBottleIn_X3_topsUp : GoodIn wsX3_firstBottleIn wsX3_topsUp := goodIn_r _ [48, 2, 49, 31, 4, 50, 24, 25, 11, 26, 37, 38, 39, 40, 41, 42, 43, 44, 80, 81, 82, 83, 84, 85, 86, 87, 88, 89, 90, 91, 92] (by decide +kernel) (by decide +kernel)
set_option maxRecDepth 20000 in
theorem gX3_firstBottleIn_X3_topsUp : GoodIn wsX3_firstBottleIn (wsV RX3 117 RX3 yX3_topsUp wsX3_topsUp) := goodIn_app (goodIn_of _ (by decide +kernel)) ggX3_firstBottleIn_X3_topsUp
set_option maxRecDepth 20000 in
theorem ggX3_firstBottleIn_X3_passes : GoodIn wsX3_firstBottleIn wsX3_passes := goodIn_r _ [54, 2, 5, 6, 55, 4, 7, 20, 21, 22, 11, 23, 56, 57, 58, 59, 60, 61, 62, 63, 64, 65, 15, 13, 66, 67, 68, 69, 70, 71, 72, 73, 74, 75, 76, 77, 78, 79, 24, 25, 26, 16, 17, 18, 19, 80, 81, 82, 83, 84, 85, 86, 87, 88, 89, 90, 91, 92] (by decide +kernel) (by decide +kernel)
set_option maxRecDepth 20000 in
theorem gX3_firstBottleIn_X3_passes : GoodIn wsX3_firstBottleIn (wsV RX3 120 RX3 yX3_passes wsX3_passes) := goodIn_app (goodIn_of _ (by decide +kernel)) ggX3_firstBottleIn_X3_passes
theorem dX3_firstBottleIn_0 : decode cX3_firstBottleIn 0 = .ok (.aload_n 0, 1) := by decide +kernel
theorem dX3_firstBottleIn_1 : decode cX3_firstBottleIn 1 = .ok (.iconst 0, 1) := by decide +kernel
theorem dX3_firstBottleIn_2 : decode cX3_firstBottleIn 2 = .ok (.putfield 30, 3) := by decide +kernel
theorem dX3_firstBottleIn_5 : decode cX3_firstBottleIn 5 = .ok (.aload_n 0, 1) := by decide +kernel
theorem dX3_firstBottleIn_6 : decode cX3_firstBottleIn 6 = .ok (.invokevirtual 123, 3) := by decide +kernel
theorem dX3_firstBottleIn_9 : decode cX3_firstBottleIn 9 = .ok (.ifCond .le 5, 3) := by decide +kernel
theorem dX3_firstBottleIn_12 : decode cX3_firstBottleIn 12 = .ok (.iconst 0, 1) := by decide +kernel
theorem dX3_firstBottleIn_13 : decode cX3_firstBottleIn 13 = .ok (.ireturn, 1) := by decide +kernel
theorem dX3_firstBottleIn_14 : decode cX3_firstBottleIn 14 = .ok (.aload_n 0, 1) := by decide +kernel
theorem dX3_firstBottleIn_15 : decode cX3_firstBottleIn 15 = .ok (.getfield 33, 3) := by decide +kernel
theorem dX3_firstBottleIn_18 : decode cX3_firstBottleIn 18 = .ok (.ifCond .ne 5, 3) := by decide +kernel
theorem dX3_firstBottleIn_21 : decode cX3_firstBottleIn 21 = .ok (.iconst (-1), 1) := by decide +kernel
theorem dX3_firstBottleIn_22 : decode cX3_firstBottleIn 22 = .ok (.ireturn, 1) := by decide +kernel
theorem dX3_firstBottleIn_23 : decode cX3_firstBottleIn 23 = .ok (.iconst 0, 1) := by decide +kernel
theorem dX3_firstBottleIn_24 : decode cX3_firstBottleIn 24 = .ok (.istore_n 1, 1) := by decide +kernel
theorem dX3_firstBottleIn_25 : decode cX3_firstBottleIn 25 = .ok (.iload_n 1, 1) := by decide +kernel
theorem dX3_firstBottleIn_26 : decode cX3_firstBottleIn 26 = .ok (.bipush 32, 2) := by decide +kernel
theorem dX3_firstBottleIn_28 : decode cX3_firstBottleIn 28 = .ok (.if_icmp .ge 21, 3) := by decide +kernel
theorem dX3_firstBottleIn_31 : decode cX3_firstBottleIn 31 = .ok (.aload_n 0, 1) := by decide +kernel
theorem dX3_firstBottleIn_32 : decode cX3_firstBottleIn 32 = .ok (.getfield 20, 3) := by decide +kernel
theorem dX3_firstBottleIn_35 : decode cX3_firstBottleIn 35 = .ok (.iload_n 1, 1) := by decide +kernel
theorem dX3_firstBottleIn_36 : decode cX3_firstBottleIn 36 = .ok (.aload_n 0, 1) := by decide +kernel
theorem dX3_firstBottleIn_37 : decode cX3_firstBottleIn 37 = .ok (.getfield 16, 3) := by decide +kernel
theorem dX3_firstBottleIn_40 : decode cX3_firstBottleIn 40 = .ok (.iload_n 1, 1) := by decide +kernel
theorem dX3_firstBottleIn_41 : decode cX3_firstBottleIn 41 = .ok (.daload, 1) := by decide +kernel
theorem dX3_firstBottleIn_42 : decode cX3_firstBottleIn 42 = .ok (.dastore, 1) := by decide +kernel
theorem dX3_firstBottleIn_43 : decode cX3_firstBottleIn 43 = .ok (.iinc 1 1, 3) := by decide +kernel
theorem dX3_firstBottleIn_46 : decode cX3_firstBottleIn 46 = .ok (.goto (-21), 3) := by decide +kernel
theorem dX3_firstBottleIn_49 : decode cX3_firstBottleIn 49 = .ok (.aload_n 0, 1) := by decide +kernel
theorem dX3_firstBottleIn_50 : decode cX3_firstBottleIn 50 = .ok (.getfield 95, 3) := by decide +kernel
theorem dX3_firstBottleIn_53 : decode cX3_firstBottleIn 53 = .ok (.istore_n 1, 1) := by decide +kernel
theorem dX3_firstBottleIn_54 : decode cX3_firstBottleIn 54 = .ok (.aload_n 0, 1) := by decide +kernel
theorem dX3_firstBottleIn_55 : decode cX3_firstBottleIn 55 = .ok (.getfield 27, 3) := by decide +kernel
theorem dX3_firstBottleIn_58 : decode cX3_firstBottleIn 58 = .ok (.istore_n 2, 1) := by decide +kernel
theorem dX3_firstBottleIn_59 : decode cX3_firstBottleIn 59 = .ok (.aload_n 0, 1) := by decide +kernel
theorem dX3_firstBottleIn_60 : decode cX3_firstBottleIn 60 = .ok (.getfield 104, 3) := by decide +kernel
theorem dX3_firstBottleIn_63 : decode cX3_firstBottleIn 63 = .ok (.dstore_n 3, 1) := by decide +kernel
theorem dX3_firstBottleIn_64 : decode cX3_firstBottleIn 64 = .ok (.iconst 0, 1) := by decide +kernel
theorem dX3_firstBottleIn_65 : decode cX3_firstBottleIn 65 = .ok (.istore 5, 2) := by decide +kernel
theorem dX3_firstBottleIn_67 : decode cX3_firstBottleIn 67 = .ok (.iconst 0, 1) := by decide +kernel
theorem dX3_firstBottleIn_68 : decode cX3_firstBottleIn 68 = .ok (.istore 6, 2) := by decide +kernel
theorem dX3_firstBottleIn_70 : decode cX3_firstBottleIn 70 = .ok (.iload 5, 2) := by decide +kernel
theorem dX3_firstBottleIn_72 : decode cX3_firstBottleIn 72 = .ok (.bipush 60, 2) := by decide +kernel
theorem dX3_firstBottleIn_74 : decode cX3_firstBottleIn 74 = .ok (.if_icmp .ge 50, 3) := by decide +kernel
theorem dX3_firstBottleIn_77 : decode cX3_firstBottleIn 77 = .ok (.iload 6, 2) := by decide +kernel
theorem dX3_firstBottleIn_79 : decode cX3_firstBottleIn 79 = .ok (.ifCond .ne 45, 3) := by decide +kernel
theorem dX3_firstBottleIn_82 : decode cX3_firstBottleIn 82 = .ok (.aload_n 0, 1) := by decide +kernel
theorem dX3_firstBottleIn_83 : decode cX3_firstBottleIn 83 = .ok (.aload_n 0, 1) := by decide +kernel
theorem dX3_firstBottleIn_84 : decode cX3_firstBottleIn 84 = .ok (.invokevirtual 110, 3) := by decide +kernel
theorem dX3_firstBottleIn_87 : decode cX3_firstBottleIn 87 = .ok (.invokevirtual 113, 3) := by decide +kernel
theorem dX3_firstBottleIn_90 : decode cX3_firstBottleIn 90 = .ok (.dstore 7, 2) := by decide +kernel
theorem dX3_firstBottleIn_92 : decode cX3_firstBottleIn 92 = .ok (.aload_n 0, 1) := by decide +kernel
theorem dX3_firstBottleIn_93 : decode cX3_firstBottleIn 93 = .ok (.invokevirtual 117, 3) := by decide +kernel
theorem dX3_firstBottleIn_96 : decode cX3_firstBottleIn 96 = .ok (.dstore 9, 2) := by decide +kernel
theorem dX3_firstBottleIn_98 : decode cX3_firstBottleIn 98 = .ok (.aload_n 0, 1) := by decide +kernel
theorem dX3_firstBottleIn_99 : decode cX3_firstBottleIn 99 = .ok (.invokevirtual 120, 3) := by decide +kernel
theorem dX3_firstBottleIn_102 : decode cX3_firstBottleIn 102 = .ok (.dstore 11, 2) := by decide +kernel
theorem dX3_firstBottleIn_104 : decode cX3_firstBottleIn 104 = .ok (.iinc 5 1, 3) := by decide +kernel
theorem dX3_firstBottleIn_107 : decode cX3_firstBottleIn 107 = .ok (.aload_n 0, 1) := by decide +kernel
theorem dX3_firstBottleIn_108 : decode cX3_firstBottleIn 108 = .ok (.invokevirtual 123, 3) := by decide +kernel
theorem dX3_firstBottleIn_111 : decode cX3_firstBottleIn 111 = .ok (.ifCond .le 7, 3) := by decide +kernel
theorem dX3_firstBottleIn_114 : decode cX3_firstBottleIn 114 = .ok (.iconst 1, 1) := by decide +kernel
theorem dX3_firstBottleIn_115 : decode cX3_firstBottleIn 115 = .ok (.goto 4, 3) := by decide +kernel
theorem dX3_firstBottleIn_118 : decode cX3_firstBottleIn 118 = .ok (.iconst 0, 1) := by decide +kernel
theorem dX3_firstBottleIn_119 : decode cX3_firstBottleIn 119 = .ok (.istore 6, 2) := by decide +kernel
theorem dX3_firstBottleIn_121 : decode cX3_firstBottleIn 121 = .ok (.goto (-51), 3) := by decide +kernel
theorem dX3_firstBottleIn_124 : decode cX3_firstBottleIn 124 = .ok (.iconst 0, 1) := by decide +kernel
theorem dX3_firstBottleIn_125 : decode cX3_firstBottleIn 125 = .ok (.istore 7, 2) := by decide +kernel
theorem dX3_firstBottleIn_127 : decode cX3_firstBottleIn 127 = .ok (.iload 7, 2) := by decide +kernel
theorem dX3_firstBottleIn_129 : decode cX3_firstBottleIn 129 = .ok (.bipush 32, 2) := by decide +kernel
theorem dX3_firstBottleIn_131 : decode cX3_firstBottleIn 131 = .ok (.if_icmp .ge 23, 3) := by decide +kernel
theorem dX3_firstBottleIn_134 : decode cX3_firstBottleIn 134 = .ok (.aload_n 0, 1) := by decide +kernel
theorem dX3_firstBottleIn_135 : decode cX3_firstBottleIn 135 = .ok (.getfield 16, 3) := by decide +kernel
theorem dX3_firstBottleIn_138 : decode cX3_firstBottleIn 138 = .ok (.iload 7, 2) := by decide +kernel
theorem dX3_firstBottleIn_140 : decode cX3_firstBottleIn 140 = .ok (.aload_n 0, 1) := by decide +kernel
theorem dX3_firstBottleIn_141 : decode cX3_firstBottleIn 141 = .ok (.getfield 20, 3) := by decide +kernel
theorem dX3_firstBottleIn_144 : decode cX3_firstBottleIn 144 = .ok (.iload 7, 2) := by decide +kernel
theorem dX3_firstBottleIn_146 : decode cX3_firstBottleIn 146 = .ok (.daload, 1) := by decide +kernel
theorem dX3_firstBottleIn_147 : decode cX3_firstBottleIn 147 = .ok (.dastore, 1) := by decide +kernel
theorem dX3_firstBottleIn_148 : decode cX3_firstBottleIn 148 = .ok (.iinc 7 1, 3) := by decide +kernel
theorem dX3_firstBottleIn_151 : decode cX3_firstBottleIn 151 = .ok (.goto (-24), 3) := by decide +kernel
theorem dX3_firstBottleIn_154 : decode cX3_firstBottleIn 154 = .ok (.aload_n 0, 1) := by decide +kernel
theorem dX3_firstBottleIn_155 : decode cX3_firstBottleIn 155 = .ok (.iload_n 1, 1) := by decide +kernel
theorem dX3_firstBottleIn_156 : decode cX3_firstBottleIn 156 = .ok (.putfield 95, 3) := by decide +kernel
theorem dX3_firstBottleIn_159 : decode cX3_firstBottleIn 159 = .ok (.aload_n 0, 1) := by decide +kernel
theorem dX3_firstBottleIn_160 : decode cX3_firstBottleIn 160 = .ok (.iload_n 2, 1) := by decide +kernel
theorem dX3_firstBottleIn_161 : decode cX3_firstBottleIn 161 = .ok (.putfield 27, 3) := by decide +kernel
theorem dX3_firstBottleIn_164 : decode cX3_firstBottleIn 164 = .ok (.aload_n 0, 1) := by decide +kernel
theorem dX3_firstBottleIn_165 : decode cX3_firstBottleIn 165 = .ok (.dload_n 3, 1) := by decide +kernel
theorem dX3_firstBottleIn_166 : decode cX3_firstBottleIn 166 = .ok (.putfield 104, 3) := by decide +kernel
theorem dX3_firstBottleIn_169 : decode cX3_firstBottleIn 169 = .ok (.iload 6, 2) := by decide +kernel
theorem dX3_firstBottleIn_171 : decode cX3_firstBottleIn 171 = .ok (.ifCond .eq 8, 3) := by decide +kernel
theorem dX3_firstBottleIn_174 : decode cX3_firstBottleIn 174 = .ok (.iload 5, 2) := by decide +kernel
theorem dX3_firstBottleIn_176 : decode cX3_firstBottleIn 176 = .ok (.goto 4, 3) := by decide +kernel
theorem dX3_firstBottleIn_179 : decode cX3_firstBottleIn 179 = .ok (.iconst (-1), 1) := by decide +kernel
theorem dX3_firstBottleIn_180 : decode cX3_firstBottleIn 180 = .ok (.ireturn, 1) := by decide +kernel
set_option maxRecDepth 20000 in
theorem ggL_add_X2_add : GoodIn wsL_add wsX2_add := goodIn_ca (goodIn_ca (goodIn_r _ [7, 8, 9, 10, 11, 12, 13, 14, 15, 16, 17, 18, 19, 20, 21, 22, 23, 24, 25, 26, 27, 28, 29, 30, 31, 32, 33, 34, 35, 36, 37, 38, 39, 40, 41, 42, 43, 44, 45, 46, 47, 48, 49, 50, 51, 52, 53, 54] (by decide +kernel) (by decide +kernel)) (goodIn_sub (fun _ h => List.mem_cons_of_mem _ (List.mem_append_left _ (List.mem_append_right _ h))) (by decide +kernel))) (goodIn_sub (fun _ h => List.mem_cons_of_mem _ (List.mem_append_right _ h)) (by decide +kernel))
set_option maxRecDepth 20000 in
theorem gL_add_X2_add : GoodIn wsL_add (wsV RL 7 RX2 yX2_add wsX2_add) := goodIn_app (goodIn_of _ (by decide +kernel)) ggL_add_X2_add
theorem dL_add_0 : decode cL_add 0 = .ok (.aload_n 3, 1) := by decide +kernel
theorem dL_add_1 : decode cL_add 1 = .ok (.iconst 0, 1) := by decide +kernel
theorem dL_add_2 : decode cL_add 2 = .ok (.aload_n 0, 1) := by decide +kernel
theorem dL_add_3 : decode cL_add 3 = .ok (.iload_n 1, 1) := by decide +kernel
theorem dL_add_4 : decode cL_add 4 = .ok (.iload_n 2, 1) := by decide +kernel
theorem dL_add_5 : decode cL_add 5 = .ok (.invokevirtual 7, 3) := by decide +kernel
theorem dL_add_8 : decode cL_add 8 = .ok (.i2l, 1) := by decide +kernel
theorem dL_add_9 : decode cL_add 9 = .ok (.lastore, 1) := by decide +kernel
theorem dL_add_10 : decode cL_add 10 = .ok (.goto 11, 3) := by decide +kernel
theorem dL_add_13 : decode cL_add 13 = .ok (.astore 4, 2) := by decide +kernel
theorem dL_add_15 : decode cL_add 15 = .ok (.iconst 1, 1) := by decide +kernel
theorem dL_add_16 : decode cL_add 16 = .ok (.ireturn, 1) := by decide +kernel
theorem dL_add_17 : decode cL_add 17 = .ok (.astore 4, 2) := by decide +kernel
theorem dL_add_19 : decode cL_add 19 = .ok (.iconst 2, 1) := by decide +kernel
theorem dL_add_20 : decode cL_add 20 = .ok (.ireturn, 1) := by decide +kernel
theorem dL_add_21 : decode cL_add 21 = .ok (.iconst 0, 1) := by decide +kernel
theorem dL_add_22 : decode cL_add 22 = .ok (.ireturn, 1) := by decide +kernel
set_option maxRecDepth 20000 in
theorem ggL_fill_X2_fill : GoodIn wsL_fill wsX2_fill := goodIn_ca (goodIn_r _ [6, 7, 8, 9, 10, 11, 12, 13, 14, 15, 16, 17, 18, 19, 20, 21, 22, 23, 24, 25, 26, 27, 28, 29, 30, 31, 32, 33, 34, 35, 36, 37, 38, 39, 40, 41, 42, 43, 44, 45, 46] (by decide +kernel) (by decide +kernel)) (goodIn_sub (fun _ h => List.mem_cons_of_mem _ (List.mem_append_right _ h)) (by decide +kernel))
set_option maxRecDepth 20000 in
theorem gL_fill_X2_fill : GoodIn wsL_fill (wsV RL 17 RX2 yX2_fill wsX2_fill) := goodIn_app (goodIn_of _ (by decide +kernel)) ggL_fill_X2_fill
theorem dL_fill_0 : decode cL_fill 0 = .ok (.aload_n 2, 1) := by decide +kernel
theorem dL_fill_1 : decode cL_fill 1 = .ok (.iconst 0, 1) := by decide +kernel
theorem dL_fill_2 : decode cL_fill 2 = .ok (.aload_n 0, 1) := by decide +kernel
theorem dL_fill_3 : decode cL_fill 3 = .ok (.iload_n 1, 1) := by decide +kernel
theorem dL_fill_4 : decode cL_fill 4 = .ok (.invokevirtual 17, 3) := by decide +kernel
theorem dL_fill_7 : decode cL_fill 7 = .ok (.dastore, 1) := by decide +kernel
theorem dL_fill_8 : decode cL_fill 8 = .ok (.goto 6, 3) := by decide +kernel
theorem dL_fill_11 : decode cL_fill 11 = .ok (.astore_n 3, 1) := by decide +kernel
theorem dL_fill_12 : decode cL_fill 12 = .ok (.iconst 1, 1) := by decide +kernel
theorem dL_fill_13 : decode cL_fill 13 = .ok (.ireturn, 1) := by decide +kernel
theorem dL_fill_14 : decode cL_fill 14 = .ok (.iconst 0, 1) := by decide +kernel
theorem dL_fill_15 : decode cL_fill 15 = .ok (.ireturn, 1) := by decide +kernel
set_option maxRecDepth 20000 in
theorem ggL_draw_X2_draw : GoodIn wsL_draw wsX2_draw := goodIn_ca (goodIn_r _ [6, 7, 8, 9, 10, 11, 12, 13, 14, 15, 16, 17, 18, 19, 20, 21, 22, 23, 24, 25, 26, 27, 28, 29, 30, 31, 32, 33, 34, 35, 36, 37, 38, 39, 40, 41, 5, 42, 43, 44, 45, 46, 47, 48, 49, 50, 51, 52, 53, 54, 55, 56, 57, 58, 59, 60, 61, 62, 63, 64, 65, 66, 67, 68, 69, 70, 71, 72, 73, 74] (by decide +kernel) (by decide +kernel)) (goodIn_sub (fun _ h => List.mem_cons_of_mem _ (List.mem_append_right _ h)) (by decide +kernel))
set_option maxRecDepth 20000 in
theorem gL_draw_X2_draw : GoodIn wsL_draw (wsV RL 21 RX2 yX2_draw wsX2_draw) := goodIn_app (goodIn_of _ (by decide +kernel)) ggL_draw_X2_draw
theorem dL_draw_0 : decode cL_draw 0 = .ok (.aload_n 2, 1) := by decide +kernel
theorem dL_draw_1 : decode cL_draw 1 = .ok (.iconst 0, 1) := by decide +kernel
theorem dL_draw_2 : decode cL_draw 2 = .ok (.aload_n 0, 1) := by decide +kernel
theorem dL_draw_3 : decode cL_draw 3 = .ok (.iload_n 1, 1) := by decide +kernel
theorem dL_draw_4 : decode cL_draw 4 = .ok (.invokevirtual 21, 3) := by decide +kernel
theorem dL_draw_7 : decode cL_draw 7 = .ok (.i2l, 1) := by decide +kernel
theorem dL_draw_8 : decode cL_draw 8 = .ok (.lastore, 1) := by decide +kernel
theorem dL_draw_9 : decode cL_draw 9 = .ok (.goto 6, 3) := by decide +kernel
theorem dL_draw_12 : decode cL_draw 12 = .ok (.astore_n 3, 1) := by decide +kernel
theorem dL_draw_13 : decode cL_draw 13 = .ok (.iconst 1, 1) := by decide +kernel
theorem dL_draw_14 : decode cL_draw 14 = .ok (.ireturn, 1) := by decide +kernel
theorem dL_draw_15 : decode cL_draw 15 = .ok (.iconst 0, 1) := by decide +kernel
theorem dL_draw_16 : decode cL_draw 16 = .ok (.ireturn, 1) := by decide +kernel
set_option maxRecDepth 20000 in
theorem ggL_pourAway_X2_pourAway : GoodIn wsL_pourAway wsX2_pourAway := goodIn_ca (goodIn_r _ [6, 7, 8, 9, 10, 5, 11, 12, 13, 14, 15, 16, 17, 18, 19, 20, 21, 22, 23, 24, 25, 26, 27, 28, 29, 30, 31, 32, 33, 34, 35, 36, 37, 38, 39, 40] (by decide +kernel) (by decide +kernel)) (goodIn_sub (fun _ h => List.mem_cons_of_mem _ (List.mem_append_right _ h)) (by decide +kernel))
set_option maxRecDepth 20000 in
theorem gL_pourAway_X2_pourAway : GoodIn wsL_pourAway (wsV RL 25 RX2 yX2_pourAway wsX2_pourAway) := goodIn_app (goodIn_of _ (by decide +kernel)) ggL_pourAway_X2_pourAway
theorem dL_pourAway_0 : decode cL_pourAway 0 = .ok (.aload_n 2, 1) := by decide +kernel
theorem dL_pourAway_1 : decode cL_pourAway 1 = .ok (.iconst 0, 1) := by decide +kernel
theorem dL_pourAway_2 : decode cL_pourAway 2 = .ok (.aload_n 0, 1) := by decide +kernel
theorem dL_pourAway_3 : decode cL_pourAway 3 = .ok (.iload_n 1, 1) := by decide +kernel
theorem dL_pourAway_4 : decode cL_pourAway 4 = .ok (.invokevirtual 25, 3) := by decide +kernel
theorem dL_pourAway_7 : decode cL_pourAway 7 = .ok (.dastore, 1) := by decide +kernel
theorem dL_pourAway_8 : decode cL_pourAway 8 = .ok (.goto 6, 3) := by decide +kernel
theorem dL_pourAway_11 : decode cL_pourAway 11 = .ok (.astore_n 3, 1) := by decide +kernel
theorem dL_pourAway_12 : decode cL_pourAway 12 = .ok (.iconst 1, 1) := by decide +kernel
theorem dL_pourAway_13 : decode cL_pourAway 13 = .ok (.ireturn, 1) := by decide +kernel
theorem dL_pourAway_14 : decode cL_pourAway 14 = .ok (.iconst 0, 1) := by decide +kernel
theorem dL_pourAway_15 : decode cL_pourAway 15 = .ok (.ireturn, 1) := by decide +kernel
set_option maxRecDepth 20000 in
theorem ggL_setWarmth_X2_setWarmth : GoodIn wsL_setWarmth wsX2_setWarmth := goodIn_ca (goodIn_r _ [6, 7, 8, 9, 10, 11, 12, 13, 14, 15, 16, 17, 18, 19] (by decide +kernel) (by decide +kernel)) (goodIn_sub (fun _ h => List.mem_cons_of_mem _ (List.mem_append_right _ h)) (by decide +kernel))
set_option maxRecDepth 20000 in
theorem gL_setWarmth_X2_setWarmth : GoodIn wsL_setWarmth (wsV RL 30 RX2 yX2_setWarmth wsX2_setWarmth) := goodIn_app (goodIn_of _ (by decide +kernel)) ggL_setWarmth_X2_setWarmth
theorem dL_setWarmth_0 : decode cL_setWarmth 0 = .ok (.aload_n 0, 1) := by decide +kernel
theorem dL_setWarmth_1 : decode cL_setWarmth 1 = .ok (.iload_n 1, 1) := by decide +kernel
theorem dL_setWarmth_2 : decode cL_setWarmth 2 = .ok (.invokevirtual 30, 3) := by decide +kernel
theorem dL_setWarmth_5 : decode cL_setWarmth 5 = .ok (.goto 6, 3) := by decide +kernel
theorem dL_setWarmth_8 : decode cL_setWarmth 8 = .ok (.astore_n 2, 1) := by decide +kernel
theorem dL_setWarmth_9 : decode cL_setWarmth 9 = .ok (.iconst 1, 1) := by decide +kernel
theorem dL_setWarmth_10 : decode cL_setWarmth 10 = .ok (.ireturn, 1) := by decide +kernel
theorem dL_setWarmth_11 : decode cL_setWarmth 11 = .ok (.iconst 0, 1) := by decide +kernel
theorem dL_setWarmth_12 : decode cL_setWarmth 12 = .ok (.ireturn, 1) := by decide +kernel
set_option maxRecDepth 20000 in
theorem ggL_litresIn_X2_litresIn : GoodIn wsL_litresIn wsX2_litresIn := goodIn_ca (goodIn_r _ [6, 7, 8, 9, 10, 5, 11, 12, 13, 14, 15, 16, 17, 18, 19, 20, 21, 22, 23, 24, 25, 26, 27, 28, 29, 30, 31] (by decide +kernel) (by decide +kernel)) (goodIn_sub (fun _ h => List.mem_cons_of_mem _ (List.mem_append_right _ h)) (by decide +kernel))
set_option maxRecDepth 20000 in
theorem gL_litresIn_X2_litresIn : GoodIn wsL_litresIn (wsV RL 34 RX2 yX2_litresIn wsX2_litresIn) := goodIn_app (goodIn_of _ (by decide +kernel)) ggL_litresIn_X2_litresIn
theorem dL_litresIn_0 : decode cL_litresIn 0 = .ok (.aload_n 2, 1) := by decide +kernel
theorem dL_litresIn_1 : decode cL_litresIn 1 = .ok (.iconst 0, 1) := by decide +kernel
theorem dL_litresIn_2 : decode cL_litresIn 2 = .ok (.aload_n 0, 1) := by decide +kernel
theorem dL_litresIn_3 : decode cL_litresIn 3 = .ok (.iload_n 1, 1) := by decide +kernel
theorem dL_litresIn_4 : decode cL_litresIn 4 = .ok (.invokevirtual 34, 3) := by decide +kernel
theorem dL_litresIn_7 : decode cL_litresIn 7 = .ok (.dastore, 1) := by decide +kernel
theorem dL_litresIn_8 : decode cL_litresIn 8 = .ok (.goto 6, 3) := by decide +kernel
theorem dL_litresIn_11 : decode cL_litresIn 11 = .ok (.astore_n 3, 1) := by decide +kernel
theorem dL_litresIn_12 : decode cL_litresIn 12 = .ok (.iconst 1, 1) := by decide +kernel
theorem dL_litresIn_13 : decode cL_litresIn 13 = .ok (.ireturn, 1) := by decide +kernel
theorem dL_litresIn_14 : decode cL_litresIn 14 = .ok (.iconst 0, 1) := by decide +kernel
theorem dL_litresIn_15 : decode cL_litresIn 15 = .ok (.ireturn, 1) := by decide +kernel
set_option maxRecDepth 20000 in
theorem ggL_ageOf_X2_ageOf : GoodIn wsL_ageOf wsX2_ageOf := goodIn_ca (goodIn_r _ [6, 7, 8, 9, 10, 5, 11, 12, 13, 14, 15, 16, 17, 18, 19, 20, 21, 22, 23, 24, 25, 26, 27, 28, 29, 30, 31] (by decide +kernel) (by decide +kernel)) (goodIn_sub (fun _ h => List.mem_cons_of_mem _ (List.mem_append_right _ h)) (by decide +kernel))
set_option maxRecDepth 20000 in
theorem gL_ageOf_X2_ageOf : GoodIn wsL_ageOf (wsV RL 37 RX2 yX2_ageOf wsX2_ageOf) := goodIn_app (goodIn_of _ (by decide +kernel)) ggL_ageOf_X2_ageOf
theorem dL_ageOf_0 : decode cL_ageOf 0 = .ok (.aload_n 2, 1) := by decide +kernel
theorem dL_ageOf_1 : decode cL_ageOf 1 = .ok (.iconst 0, 1) := by decide +kernel
theorem dL_ageOf_2 : decode cL_ageOf 2 = .ok (.aload_n 0, 1) := by decide +kernel
theorem dL_ageOf_3 : decode cL_ageOf 3 = .ok (.iload_n 1, 1) := by decide +kernel
theorem dL_ageOf_4 : decode cL_ageOf 4 = .ok (.invokevirtual 37, 3) := by decide +kernel
theorem dL_ageOf_7 : decode cL_ageOf 7 = .ok (.dastore, 1) := by decide +kernel
theorem dL_ageOf_8 : decode cL_ageOf 8 = .ok (.goto 6, 3) := by decide +kernel
theorem dL_ageOf_11 : decode cL_ageOf 11 = .ok (.astore_n 3, 1) := by decide +kernel
theorem dL_ageOf_12 : decode cL_ageOf 12 = .ok (.iconst 1, 1) := by decide +kernel
theorem dL_ageOf_13 : decode cL_ageOf 13 = .ok (.ireturn, 1) := by decide +kernel
theorem dL_ageOf_14 : decode cL_ageOf 14 = .ok (.iconst 0, 1) := by decide +kernel
theorem dL_ageOf_15 : decode cL_ageOf 15 = .ok (.ireturn, 1) := by decide +kernel
set_option maxRecDepth 20000 in
theorem ggL_acidOf_X2_acidOf : GoodIn wsL_acidOf wsX2_acidOf := goodIn_ca (goodIn_r _ [6, 7, 8, 9, 10, 5, 11, 12, 13, 14, 15, 16, 17, 18, 19, 20, 21, 22, 23, 24, 25, 26, 27, 28, 29, 30, 31] (by decide +kernel) (by decide +kernel)) (goodIn_sub (fun _ h => List.mem_cons_of_mem _ (List.mem_append_right _ h)) (by decide +kernel))
set_option maxRecDepth 20000 in
theorem gL_acidOf_X2_acidOf : GoodIn wsL_acidOf (wsV RL 40 RX2 yX2_acidOf wsX2_acidOf) := goodIn_app (goodIn_of _ (by decide +kernel)) ggL_acidOf_X2_acidOf
theorem dL_acidOf_0 : decode cL_acidOf 0 = .ok (.aload_n 2, 1) := by decide +kernel
theorem dL_acidOf_1 : decode cL_acidOf 1 = .ok (.iconst 0, 1) := by decide +kernel
theorem dL_acidOf_2 : decode cL_acidOf 2 = .ok (.aload_n 0, 1) := by decide +kernel
theorem dL_acidOf_3 : decode cL_acidOf 3 = .ok (.iload_n 1, 1) := by decide +kernel
theorem dL_acidOf_4 : decode cL_acidOf 4 = .ok (.invokevirtual 40, 3) := by decide +kernel
theorem dL_acidOf_7 : decode cL_acidOf 7 = .ok (.dastore, 1) := by decide +kernel
theorem dL_acidOf_8 : decode cL_acidOf 8 = .ok (.goto 6, 3) := by decide +kernel
theorem dL_acidOf_11 : decode cL_acidOf 11 = .ok (.astore_n 3, 1) := by decide +kernel
theorem dL_acidOf_12 : decode cL_acidOf 12 = .ok (.iconst 1, 1) := by decide +kernel
theorem dL_acidOf_13 : decode cL_acidOf 13 = .ok (.ireturn, 1) := by decide +kernel
theorem dL_acidOf_14 : decode cL_acidOf 14 = .ok (.iconst 0, 1) := by decide +kernel
theorem dL_acidOf_15 : decode cL_acidOf 15 = .ok (.ireturn, 1) := by decide +kernel
set_option maxRecDepth 20000 in
theorem ggL_sugarOf_X2_sugarOf : GoodIn wsL_sugarOf wsX2_sugarOf := goodIn_ca (goodIn_r _ [6, 7, 8, 9, 10, 5, 11, 12, 13, 14, 15, 16, 17, 18, 19, 20, 21, 22, 23, 24, 25, 26, 27, 28, 29, 30, 31] (by decide +kernel) (by decide +kernel)) (goodIn_sub (fun _ h => List.mem_cons_of_mem _ (List.mem_append_right _ h)) (by decide +kernel))
set_option maxRecDepth 20000 in
theorem gL_sugarOf_X2_sugarOf : GoodIn wsL_sugarOf (wsV RL 43 RX2 yX2_sugarOf wsX2_sugarOf) := goodIn_app (goodIn_of _ (by decide +kernel)) ggL_sugarOf_X2_sugarOf
theorem dL_sugarOf_0 : decode cL_sugarOf 0 = .ok (.aload_n 2, 1) := by decide +kernel
theorem dL_sugarOf_1 : decode cL_sugarOf 1 = .ok (.iconst 0, 1) := by decide +kernel
theorem dL_sugarOf_2 : decode cL_sugarOf 2 = .ok (.aload_n 0, 1) := by decide +kernel
theorem dL_sugarOf_3 : decode cL_sugarOf 3 = .ok (.iload_n 1, 1) := by decide +kernel
theorem dL_sugarOf_4 : decode cL_sugarOf 4 = .ok (.invokevirtual 43, 3) := by decide +kernel
theorem dL_sugarOf_7 : decode cL_sugarOf 7 = .ok (.dastore, 1) := by decide +kernel
theorem dL_sugarOf_8 : decode cL_sugarOf 8 = .ok (.goto 6, 3) := by decide +kernel
theorem dL_sugarOf_11 : decode cL_sugarOf 11 = .ok (.astore_n 3, 1) := by decide +kernel
theorem dL_sugarOf_12 : decode cL_sugarOf 12 = .ok (.iconst 1, 1) := by decide +kernel
theorem dL_sugarOf_13 : decode cL_sugarOf 13 = .ok (.ireturn, 1) := by decide +kernel
theorem dL_sugarOf_14 : decode cL_sugarOf 14 = .ok (.iconst 0, 1) := by decide +kernel
theorem dL_sugarOf_15 : decode cL_sugarOf 15 = .ok (.ireturn, 1) := by decide +kernel
set_option maxRecDepth 20000 in
theorem ggL_tasteOf_X2_tasteOf : GoodIn wsL_tasteOf wsX2_tasteOf := goodIn_ca (goodIn_r _ [6, 7, 8, 9, 5, 10, 11, 12, 13, 14, 15, 16, 17, 18, 19, 20, 21, 22, 23, 24, 25, 26, 27, 28, 29, 30, 31, 32, 33, 34, 35, 36, 37, 38, 39, 40, 41, 42, 43, 44, 45, 46, 47] (by decide +kernel) (by decide +kernel)) (goodIn_sub (fun _ h => List.mem_cons_of_mem _ (List.mem_append_right _ h)) (by decide +kernel))
set_option maxRecDepth 20000 in
theorem gL_tasteOf_X2_tasteOf : GoodIn wsL_tasteOf (wsV RL 46 RX2 yX2_tasteOf wsX2_tasteOf) := goodIn_app (goodIn_of _ (by decide +kernel)) ggL_tasteOf_X2_tasteOf
theorem dL_tasteOf_0 : decode cL_tasteOf 0 = .ok (.aload_n 2, 1) := by decide +kernel
theorem dL_tasteOf_1 : decode cL_tasteOf 1 = .ok (.iconst 0, 1) := by decide +kernel
theorem dL_tasteOf_2 : decode cL_tasteOf 2 = .ok (.aload_n 0, 1) := by decide +kernel
theorem dL_tasteOf_3 : decode cL_tasteOf 3 = .ok (.iload_n 1, 1) := by decide +kernel
theorem dL_tasteOf_4 : decode cL_tasteOf 4 = .ok (.invokevirtual 46, 3) := by decide +kernel
theorem dL_tasteOf_7 : decode cL_tasteOf 7 = .ok (.dastore, 1) := by decide +kernel
theorem dL_tasteOf_8 : decode cL_tasteOf 8 = .ok (.goto 6, 3) := by decide +kernel
theorem dL_tasteOf_11 : decode cL_tasteOf 11 = .ok (.astore_n 3, 1) := by decide +kernel
theorem dL_tasteOf_12 : decode cL_tasteOf 12 = .ok (.iconst 1, 1) := by decide +kernel
theorem dL_tasteOf_13 : decode cL_tasteOf 13 = .ok (.ireturn, 1) := by decide +kernel
theorem dL_tasteOf_14 : decode cL_tasteOf 14 = .ok (.iconst 0, 1) := by decide +kernel
theorem dL_tasteOf_15 : decode cL_tasteOf 15 = .ok (.ireturn, 1) := by decide +kernel
set_option maxRecDepth 20000 in
theorem ggL_bottles_X2_bottles : GoodIn wsL_bottles wsX2_bottles := goodIn_ca (goodIn_r _ [6, 7, 8, 9, 10, 11, 12, 13] (by decide +kernel) (by decide +kernel)) (goodIn_sub (fun _ h => List.mem_cons_of_mem _ (List.mem_append_right _ h)) (by decide +kernel))
set_option maxRecDepth 20000 in
theorem gL_bottles_X2_bottles : GoodIn wsL_bottles (wsV RL 49 RX2 yX2_bottles wsX2_bottles) := goodIn_app (goodIn_of _ (by decide +kernel)) ggL_bottles_X2_bottles
theorem dL_bottles_0 : decode cL_bottles 0 = .ok (.aload_n 2, 1) := by decide +kernel
theorem dL_bottles_1 : decode cL_bottles 1 = .ok (.iconst 0, 1) := by decide +kernel
theorem dL_bottles_2 : decode cL_bottles 2 = .ok (.aload_n 0, 1) := by decide +kernel
theorem dL_bottles_3 : decode cL_bottles 3 = .ok (.iload_n 1, 1) := by decide +kernel
theorem dL_bottles_4 : decode cL_bottles 4 = .ok (.invokevirtual 49, 3) := by decide +kernel
theorem dL_bottles_7 : decode cL_bottles 7 = .ok (.i2l, 1) := by decide +kernel
theorem dL_bottles_8 : decode cL_bottles 8 = .ok (.lastore, 1) := by decide +kernel
theorem dL_bottles_9 : decode cL_bottles 9 = .ok (.goto 6, 3) := by decide +kernel
theorem dL_bottles_12 : decode cL_bottles 12 = .ok (.astore_n 3, 1) := by decide +kernel
theorem dL_bottles_13 : decode cL_bottles 13 = .ok (.iconst 1, 1) := by decide +kernel
theorem dL_bottles_14 : decode cL_bottles 14 = .ok (.ireturn, 1) := by decide +kernel
theorem dL_bottles_15 : decode cL_bottles 15 = .ok (.iconst 0, 1) := by decide +kernel
theorem dL_bottles_16 : decode cL_bottles 16 = .ok (.ireturn, 1) := by decide +kernel
set_option maxRecDepth 20000 in
theorem ggL_law_X2_init : GoodIn wsL_law wsX2_init := goodIn_r _ [10, 11, 12, 13, 14, 15, 16, 17, 18, 19, 20, 21, 22, 23, 24, 25, 26, 27, 28, 29, 30, 31, 32, 33, 34, 35, 36, 523, 524, 525, 526, 527, 506, 507, 508, 509, 528, 529, 530, 531, 532, 533] (by decide +kernel) (by decide +kernel)
set_option maxRecDepth 20000 in
theorem gL_law_X2_init : GoodIn wsL_law (wsX2_init) := ggL_law_X2_init
set_option maxRecDepth 20000 in
theorem ggL_law_X3_init : GoodIn wsL_law wsX3_init := goodIn_r _ [39, 40, 12, 13, 19, 41, 42, 7, 43, 44, 45, 46, 510, 511, 512, 513, 514, 515, 516, 517, 518, 519, 520, 521, 522] (by decide +kernel) (by decide +kernel)
set_option maxRecDepth 20000 in
theorem gL_law_X3_init : GoodIn wsL_law (wsX3_init) := ggL_law_X3_init
set_option maxRecDepth 20000 in
theorem ggL_law_L_add : GoodIn wsL_law wsL_add := goodIn_ca (goodIn_ca (goodIn_r _ [50, 51, 52, 53, 54, 55, 2, 56, 57, 58, 59, 60, 17, 61, 62, 63, 16, 64, 30, 27, 65, 66, 67, 68, 69, 70, 71, 72, 73, 74, 75, 76, 77, 78, 29, 79, 80, 81, 82, 83, 506, 507, 508, 509, 523, 524, 525, 526, 527, 528, 529, 530, 531, 532, 533] (by decide +kernel) (by decide +kernel)) (goodIn_sub (fun _ h => List.mem_append_left _ (List.mem_append_left _ (List.mem_append_right _ h))) (by decide +kernel))) (goodIn_sub (fun _ h => List.mem_append_left _ (List.mem_append_right _ h)) (by decide +kernel))
set_option maxRecDepth 20000 in
theorem gL_law_L_add : GoodIn wsL_law (va_wsS RL 56 yL_add wsL_add) := goodIn_app (goodIn_of _ (by decide +kernel)) ggL_law_L_add
set_option maxRecDepth 20000 in
theorem ggL_law_X3_add : GoodIn wsL_law wsX3_add := goodIn_r _ [87, 88, 42, 89, 41, 510, 511, 512, 513, 514, 515, 516, 517, 518, 519, 520, 521, 522] (by decide +kernel) (by decide +kernel)
set_option maxRecDepth 20000 in
theorem gL_law_X3_add : GoodIn wsL_law (wsV RL 61 RX3 yX3_add wsX3_add) := goodIn_app (goodIn_of _ (by decide +kernel)) ggL_law_X3_add
set_option maxRecDepth 20000 in
theorem ggL_law_X3_thrown : GoodIn wsL_law wsX3_thrown := goodIn_r _ [93, 89, 510, 511, 512, 513, 514, 515, 516, 517, 518, 519, 520, 521, 522] (by decide +kernel) (by decide +kernel)
set_option maxRecDepth 20000 in
theorem gL_law_X3_thrown : GoodIn wsL_law (wsV RL 62 RX3 yX3_thrown wsX3_thrown) := goodIn_app (goodIn_of _ (by decide +kernel)) ggL_law_X3_thrown
set_option maxRecDepth 20000 in
theorem ggL_law_L_fill : GoodIn wsL_law wsL_fill := goodIn_ca (goodIn_r _ [96, 51, 97, 98, 99, 2, 100, 57, 58, 17, 101, 102, 103, 16, 104, 30, 27, 65, 105, 106, 107, 108, 109, 29, 110, 80, 81, 82, 83, 111, 112, 113, 506, 507, 508, 509, 523, 524, 525, 526, 527, 528, 529, 530, 531, 532, 533] (by decide +kernel) (by decide +kernel)) (goodIn_sub (fun _ h => List.mem_append_left _ (List.mem_append_left _ (List.mem_append_right _ h))) (by decide +kernel))
set_option maxRecDepth 20000 in
theorem gL_law_L_fill : GoodIn wsL_law (va_wsS RL 66 yL_fill wsL_fill) := goodIn_app (goodIn_of _ (by decide +kernel)) ggL_law_L_fill
set_option maxRecDepth 20000 in
theorem ggL_law_X3_fill : GoodIn wsL_law wsX3_fill := goodIn_r _ [117, 89, 88, 118, 119, 120, 5, 121, 42, 43, 122, 123, 124, 125, 126, 127, 128, 129, 130, 131, 132, 133, 134, 135, 136, 137, 510, 511, 512, 513, 514, 515, 516, 517, 518, 519, 520, 521, 522] (by decide +kernel) (by decide +kernel)
set_option maxRecDepth 20000 in
theorem gL_law_X3_fill : GoodIn wsL_law (wsV RL 69 RX3 yX3_fill wsX3_fill) := goodIn_app (goodIn_of _ (by decide +kernel)) ggL_law_X3_fill
set_option maxRecDepth 20000 in
theorem ggL_law_X2_topUp : GoodIn wsL_law wsX2_topUp := goodIn_r _ [141, 17, 142, 143, 144, 16, 145, 30, 27, 146, 147, 148, 149, 65, 105, 150, 151, 152, 153, 107, 108, 109, 29, 110, 80, 81, 82, 83, 111, 112, 113, 154, 155, 156, 157, 158, 77, 78, 79, 506, 507, 508, 509, 523, 524, 525, 526, 527, 528, 529, 530, 531, 532, 533] (by decide +kernel) (by decide +kernel)
set_option maxRecDepth 20000 in
theorem gL_law_X2_topUp : GoodIn wsL_law (wsV RL 70 RX2 yX2_topUp wsX2_topUp) := goodIn_app (goodIn_of _ (by decide +kernel)) ggL_law_X2_topUp
set_option maxRecDepth 20000 in
theorem ggL_law_X3_topUp : GoodIn wsL_law wsX3_topUp := goodIn_r _ [162, 89, 163, 164, 165, 5, 166, 88, 167, 42, 43, 168, 122, 123, 124, 130, 131, 132, 133, 134, 135, 136, 137, 510, 511, 512, 513, 514, 515, 516, 517, 518, 519, 520, 521, 522] (by decide +kernel) (by decide +kernel)
set_option maxRecDepth 20000 in
theorem gL_law_X3_topUp : GoodIn wsL_law (wsV RL 74 RX3 yX3_topUp wsX3_topUp) := goodIn_app (goodIn_of _ (by decide +kernel)) ggL_law_X3_topUp
set_option maxRecDepth 20000 in
theorem ggL_law_X2_year : GoodIn wsL_law wsX2_year := goodIn_r _ [172, 21, 17, 173, 174, 175, 16, 176, 30, 27, 32, 177, 105, 33, 178, 179, 180, 181, 182, 31, 183, 184, 185, 186, 29, 187, 80, 188, 189, 190, 191, 192, 83, 193, 81, 194, 195, 196, 197, 198, 199, 200, 201, 155, 156, 157, 158, 77, 78, 79, 82, 202, 203, 204, 205, 206, 207, 208, 209, 210, 211, 212, 213, 214, 215, 216, 151, 506, 507, 508, 509, 523, 524, 525, 526, 527, 528, 529, 530, 531, 532, 533] (by decide +kernel) (by decide +kernel)
set_option maxRecDepth 20000 in
theorem gL_law_X2_year : GoodIn wsL_law (wsV RL 75 RX2 yX2_year wsX2_year) := goodIn_app (goodIn_of _ (by decide +kernel)) ggL_law_X2_year
set_option maxRecDepth 20000 in
theorem ggL_law_X3_year : GoodIn wsL_law wsX3_year := goodIn_r _ [220, 89, 221, 222, 223, 5, 224, 88, 225, 46, 226, 43, 227, 228, 229, 230, 231, 232, 233, 234, 235, 41, 236, 237, 238, 239, 240, 241, 242, 243, 244, 245, 246, 247, 248, 249, 250, 251, 252, 253, 254, 45, 255, 122, 123, 124, 256, 257, 258, 259, 510, 511, 512, 513, 514, 515, 516, 517, 518, 519, 520, 521, 522] (by decide +kernel) (by decide +kernel)
set_option maxRecDepth 20000 in
theorem gL_law_X3_year : GoodIn wsL_law (wsV RL 78 RX3 yX3_year wsX3_year) := goodIn_app (goodIn_of _ (by decide +kernel)) ggL_law_X3_year
set_option maxRecDepth 20000 in
theorem ggL_law_L_draw : GoodIn wsL_law wsL_draw := goodIn_ca (goodIn_r _ [262, 51, 263, 264, 265, 2, 266, 57, 58, 17, 20, 267, 268, 269, 16, 270, 32, 27, 151, 271, 153, 272, 33, 105, 273, 213, 214, 215, 216, 30, 184, 185, 186, 29, 187, 80, 274, 275, 276, 277, 278, 279, 280, 281, 282, 283, 284, 285, 286, 154, 155, 156, 157, 158, 77, 78, 79, 81, 82, 83, 506, 507, 508, 509, 523, 524, 525, 526, 527, 528, 529, 530, 531, 532, 533] (by decide +kernel) (by decide +kernel)) (goodIn_sub (fun _ h => List.mem_append_left _ (List.mem_append_left _ (List.mem_append_right _ h))) (by decide +kernel))
set_option maxRecDepth 20000 in
theorem gL_law_L_draw : GoodIn wsL_law (va_wsS RL 79 yL_draw wsL_draw) := goodIn_app (goodIn_of _ (by decide +kernel)) ggL_law_L_draw
set_option maxRecDepth 20000 in
theorem ggL_law_X3_draw : GoodIn wsL_law wsX3_draw := goodIn_r _ [290, 89, 46, 43, 291, 292, 293, 294, 295, 227, 241, 296, 297, 298, 5, 299, 242, 256, 257, 258, 259, 88, 228, 229, 230, 231, 122, 123, 124, 300, 301, 302, 303, 510, 511, 512, 513, 514, 515, 516, 517, 518, 519, 520, 521, 522] (by decide +kernel) (by decide +kernel)
set_option maxRecDepth 20000 in
theorem gL_law_X3_draw : GoodIn wsL_law (wsV RL 82 RX3 yX3_draw wsX3_draw) := goodIn_app (goodIn_of _ (by decide +kernel)) ggL_law_X3_draw
set_option maxRecDepth 20000 in
theorem ggL_law_L_pourAway : GoodIn wsL_law wsL_pourAway := goodIn_ca (goodIn_r _ [306, 307, 308, 309, 310, 2, 311, 312, 313, 314, 315, 316, 317, 318, 17, 319, 320, 321, 77, 78, 29, 79, 80, 81, 82, 83, 528, 529, 530, 531, 532, 533, 506, 507, 508, 509, 523, 524, 525, 526, 527] (by decide +kernel) (by decide +kernel)) (goodIn_sub (fun _ h => List.mem_append_right _ h) (by decide +kernel))
set_option maxRecDepth 20000 in
theorem gL_law_L_pourAway : GoodIn wsL_law (va_wsS RL 83 yL_pourAway wsL_pourAway) := goodIn_app (goodIn_of _ (by decide +kernel)) ggL_law_L_pourAway
set_option maxRecDepth 20000 in
theorem ggL_law_X3_pourAway : GoodIn wsL_law wsX3_pourAway := goodIn_r _ [325, 43, 326, 327, 328, 5, 329, 88, 89, 300, 301, 302, 303, 510, 511, 512, 513, 514, 515, 516, 517, 518, 519, 520, 521, 522] (by decide +kernel) (by decide +kernel)
set_option maxRecDepth 20000 in
theorem gL_law_X3_pourAway : GoodIn wsL_law (wsV RL 85 RX3 yX3_pourAway wsX3_pourAway) := goodIn_app (goodIn_of _ (by decide +kernel)) ggL_law_X3_pourAway
set_option maxRecDepth 20000 in
theorem ggL_law_L_setWarmth : GoodIn wsL_law wsL_setWarmth := goodIn_ca (goodIn_r _ [332, 51, 333, 334, 335, 2, 336, 57, 58, 17, 337, 506, 507, 508, 509, 523, 524, 525, 526, 527] (by decide +kernel) (by decide +kernel)) (goodIn_sub (fun _ h => List.mem_append_left _ (List.mem_append_left _ (List.mem_append_right _ h))) (by decide +kernel))
set_option maxRecDepth 20000 in
theorem gL_law_L_setWarmth : GoodIn wsL_law (va_wsS RL 86 yL_setWarmth wsL_setWarmth) := goodIn_app (goodIn_of _ (by decide +kernel)) ggL_law_L_setWarmth
set_option maxRecDepth 20000 in
theorem ggL_law_X3_setWarmth : GoodIn wsL_law wsX3_setWarmth := goodIn_r _ [341, 89, 45, 510, 511, 512, 513, 514, 515, 516, 517, 518, 519, 520, 521, 522] (by decide +kernel) (by decide +kernel)
set_option maxRecDepth 20000 in
theorem gL_law_X3_setWarmth : GoodIn wsL_law (wsV RL 89 RX3 yX3_setWarmth wsX3_setWarmth) := goodIn_app (goodIn_of _ (by decide +kernel)) ggL_law_X3_setWarmth
set_option maxRecDepth 20000 in
theorem ggL_law_X2_barrels : GoodIn wsL_law wsX2_barrels := goodIn_r _ [345, 17, 319, 506, 507, 508, 509, 523, 524, 525, 526, 527] (by decide +kernel) (by decide +kernel)
set_option maxRecDepth 20000 in
theorem gL_law_X2_barrels : GoodIn wsL_law (wsV RL 90 RX2 yX2_barrels wsX2_barrels) := goodIn_app (goodIn_of _ (by decide +kernel)) ggL_law_X2_barrels
set_option maxRecDepth 20000 in
theorem ggL_law_X3_barrels : GoodIn wsL_law wsX3_barrels := goodIn_r _ [349, 89, 88, 510, 511, 512, 513, 514, 515, 516, 517, 518, 519, 520, 521, 522] (by decide +kernel) (by decide +kernel)
set_option maxRecDepth 20000 in
theorem gL_law_X3_barrels : GoodIn wsL_law (wsV RL 93 RX3 yX3_barrels wsX3_barrels) := goodIn_app (goodIn_of _ (by decide +kernel)) ggL_law_X3_barrels
set_option maxRecDepth 20000 in
theorem ggL_law_L_litresIn : GoodIn wsL_law wsL_litresIn := goodIn_ca (goodIn_r _ [352, 307, 353, 354, 355, 2, 356, 312, 313, 314, 315, 316, 317, 318, 17, 319, 320, 528, 529, 530, 531, 532, 533, 506, 507, 508, 509, 523, 524, 525, 526, 527] (by decide +kernel) (by decide +kernel)) (goodIn_sub (fun _ h => List.mem_append_right _ h) (by decide +kernel))
set_option maxRecDepth 20000 in
theorem gL_law_L_litresIn : GoodIn wsL_law (va_wsS RL 94 yL_litresIn wsL_litresIn) := goodIn_app (goodIn_of _ (by decide +kernel)) ggL_law_L_litresIn
set_option maxRecDepth 20000 in
theorem ggL_law_X3_litresIn : GoodIn wsL_law wsX3_litresIn := goodIn_r _ [360, 361, 362, 363, 5, 364, 43, 326, 327, 328, 329, 88, 89, 510, 511, 512, 513, 514, 515, 516, 517, 518, 519, 520, 521, 522] (by decide +kernel) (by decide +kernel)
set_option maxRecDepth 20000 in
theorem gL_law_X3_litresIn : GoodIn wsL_law (wsV RL 96 RX3 yX3_litresIn wsX3_litresIn) := goodIn_app (goodIn_of _ (by decide +kernel)) ggL_law_X3_litresIn
set_option maxRecDepth 20000 in
theorem ggL_law_L_ageOf : GoodIn wsL_law wsL_ageOf := goodIn_ca (goodIn_r _ [367, 307, 368, 369, 370, 2, 371, 372, 313, 314, 315, 316, 317, 318, 17, 319, 320, 528, 529, 530, 531, 532, 533, 506, 507, 508, 509, 523, 524, 525, 526, 527] (by decide +kernel) (by decide +kernel)) (goodIn_sub (fun _ h => List.mem_append_right _ h) (by decide +kernel))
set_option maxRecDepth 20000 in
theorem gL_law_L_ageOf : GoodIn wsL_law (va_wsS RL 97 yL_ageOf wsL_ageOf) := goodIn_app (goodIn_of _ (by decide +kernel)) ggL_law_L_ageOf
set_option maxRecDepth 20000 in
theorem ggL_law_X3_ageOf : GoodIn wsL_law wsX3_ageOf := goodIn_r _ [376, 361, 362, 363, 5, 364, 43, 326, 327, 328, 329, 88, 89, 510, 511, 512, 513, 514, 515, 516, 517, 518, 519, 520, 521, 522] (by decide +kernel) (by decide +kernel)
set_option maxRecDepth 20000 in
theorem gL_law_X3_ageOf : GoodIn wsL_law (wsV RL 99 RX3 yX3_ageOf wsX3_ageOf) := goodIn_app (goodIn_of _ (by decide +kernel)) ggL_law_X3_ageOf
set_option maxRecDepth 20000 in
theorem ggL_law_L_acidOf : GoodIn wsL_law wsL_acidOf := goodIn_ca (goodIn_r _ [379, 307, 380, 381, 382, 2, 383, 384, 313, 314, 315, 316, 317, 318, 17, 319, 320, 528, 529, 530, 531, 532, 533, 506, 507, 508, 509, 523, 524, 525, 526, 527] (by decide +kernel) (by decide +kernel)) (goodIn_sub (fun _ h => List.mem_append_right _ h) (by decide +kernel))
set_option maxRecDepth 20000 in
theorem gL_law_L_acidOf : GoodIn wsL_law (va_wsS RL 100 yL_acidOf wsL_acidOf) := goodIn_app (goodIn_of _ (by decide +kernel)) ggL_law_L_acidOf
set_option maxRecDepth 20000 in
theorem ggL_law_X3_acidOf : GoodIn wsL_law wsX3_acidOf := goodIn_r _ [388, 361, 362, 363, 5, 364, 43, 326, 327, 328, 329, 88, 89, 510, 511, 512, 513, 514, 515, 516, 517, 518, 519, 520, 521, 522] (by decide +kernel) (by decide +kernel)
set_option maxRecDepth 20000 in
theorem gL_law_X3_acidOf : GoodIn wsL_law (wsV RL 102 RX3 yX3_acidOf wsX3_acidOf) := goodIn_app (goodIn_of _ (by decide +kernel)) ggL_law_X3_acidOf
set_option maxRecDepth 20000 in
theorem ggL_law_L_sugarOf : GoodIn wsL_law wsL_sugarOf := goodIn_ca (goodIn_r _ [391, 307, 392, 393, 394, 2, 395, 396, 313, 314, 315, 316, 317, 318, 17, 319, 320, 528, 529, 530, 531, 532, 533, 506, 507, 508, 509, 523, 524, 525, 526, 527] (by decide +kernel) (by decide +kernel)) (goodIn_sub (fun _ h => List.mem_append_right _ h) (by decide +kernel))
set_option maxRecDepth 20000 in
theorem gL_law_L_sugarOf : GoodIn wsL_law (va_wsS RL 103 yL_sugarOf wsL_sugarOf) := goodIn_app (goodIn_of _ (by decide +kernel)) ggL_law_L_sugarOf
set_option maxRecDepth 20000 in
theorem ggL_law_X3_sugarOf : GoodIn wsL_law wsX3_sugarOf := goodIn_r _ [400, 361, 362, 363, 5, 364, 43, 326, 327, 328, 329, 88, 89, 510, 511, 512, 513, 514, 515, 516, 517, 518, 519, 520, 521, 522] (by decide +kernel) (by decide +kernel)
set_option maxRecDepth 20000 in
theorem gL_law_X3_sugarOf : GoodIn wsL_law (wsV RL 105 RX3 yX3_sugarOf wsX3_sugarOf) := goodIn_app (goodIn_of _ (by decide +kernel)) ggL_law_X3_sugarOf
set_option maxRecDepth 20000 in
theorem ggL_law_L_tasteOf : GoodIn wsL_law wsL_tasteOf := goodIn_ca (goodIn_r _ [403, 307, 404, 405, 406, 2, 407, 313, 314, 315, 316, 317, 318, 17, 319, 320, 408, 409, 410, 29, 411, 82, 412, 413, 81, 210, 83, 414, 202, 185, 186, 187, 80, 506, 507, 508, 509, 523, 524, 525, 526, 527, 528, 529, 530, 531, 532, 533] (by decide +kernel) (by decide +kernel)) (goodIn_sub (fun _ h => List.mem_append_right _ h) (by decide +kernel))
set_option maxRecDepth 20000 in
theorem gL_law_L_tasteOf : GoodIn wsL_law (va_wsS RL 106 yL_tasteOf wsL_tasteOf) := goodIn_app (goodIn_of _ (by decide +kernel)) ggL_law_L_tasteOf
set_option maxRecDepth 20000 in
theorem ggL_law_X3_tasteOf : GoodIn wsL_law wsX3_tasteOf := goodIn_r _ [418, 43, 419, 168, 240, 420, 326, 327, 328, 5, 329, 88, 89, 228, 229, 230, 231, 510, 511, 512, 513, 514, 515, 516, 517, 518, 519, 520, 521, 522] (by decide +kernel) (by decide +kernel)
set_option maxRecDepth 20000 in
theorem gL_law_X3_tasteOf : GoodIn wsL_law (wsV RL 108 RX3 yX3_tasteOf wsX3_tasteOf) := goodIn_app (goodIn_of _ (by decide +kernel)) ggL_law_X3_tasteOf
set_option maxRecDepth 20000 in
theorem ggL_law_X2_oldest : GoodIn wsL_law wsX2_oldest := goodIn_r _ [424, 17, 425, 214, 215, 16, 216, 30, 27, 151, 184, 185, 186, 29, 187, 80, 506, 507, 508, 509, 523, 524, 525, 526, 527, 528, 529, 530, 531, 532, 533] (by decide +kernel) (by decide +kernel)
set_option maxRecDepth 20000 in
theorem gL_law_X2_oldest : GoodIn wsL_law (wsV RL 109 RX2 yX2_oldest wsX2_oldest) := goodIn_app (goodIn_of _ (by decide +kernel)) ggL_law_X2_oldest
set_option maxRecDepth 20000 in
theorem ggL_law_X3_oldest : GoodIn wsL_law wsX3_oldest := goodIn_r _ [429, 89, 256, 257, 258, 5, 259, 88, 43, 228, 229, 230, 231, 510, 511, 512, 513, 514, 515, 516, 517, 518, 519, 520, 521, 522] (by decide +kernel) (by decide +kernel)
set_option maxRecDepth 20000 in
theorem gL_law_X3_oldest : GoodIn wsL_law (wsV RL 112 RX3 yX3_oldest wsX3_oldest) := goodIn_app (goodIn_of _ (by decide +kernel)) ggL_law_X3_oldest
set_option maxRecDepth 20000 in
theorem ggL_law_X2_drawable : GoodIn wsL_law wsX2_drawable := goodIn_r _ [433, 17, 267, 268, 269, 16, 270, 32, 27, 151, 271, 153, 272, 33, 105, 273, 213, 214, 215, 216, 30, 184, 185, 186, 29, 187, 80, 506, 507, 508, 509, 523, 524, 525, 526, 527, 528, 529, 530, 531, 532, 533] (by decide +kernel) (by decide +kernel)
set_option maxRecDepth 20000 in
theorem gL_law_X2_drawable : GoodIn wsL_law (wsV RL 113 RX2 yX2_drawable wsX2_drawable) := goodIn_app (goodIn_of _ (by decide +kernel)) ggL_law_X2_drawable
set_option maxRecDepth 20000 in
theorem ggL_law_X3_drawable : GoodIn wsL_law wsX3_drawable := goodIn_r _ [437, 89, 296, 297, 298, 5, 299, 46, 43, 242, 294, 227, 241, 256, 257, 258, 259, 88, 228, 229, 230, 231, 122, 123, 124, 510, 511, 512, 513, 514, 515, 516, 517, 518, 519, 520, 521, 522] (by decide +kernel) (by decide +kernel)
set_option maxRecDepth 20000 in
theorem gL_law_X3_drawable : GoodIn wsL_law (wsV RL 116 RX3 yX3_drawable wsX3_drawable) := goodIn_app (goodIn_of _ (by decide +kernel)) ggL_law_X3_drawable
set_option maxRecDepth 20000 in
theorem ggL_law_L_bottles : GoodIn wsL_law wsL_bottles := goodIn_ca (goodIn_r _ [440, 51, 441, 442, 443, 2, 444, 57, 58, 20, 506, 507, 508, 509] (by decide +kernel) (by decide +kernel)) (goodIn_sub (fun _ h => List.mem_append_left _ (List.mem_append_left _ (List.mem_append_right _ h))) (by decide +kernel))
set_option maxRecDepth 20000 in
theorem gL_law_L_bottles : GoodIn wsL_law (va_wsS RL 117 yL_bottles wsL_bottles) := goodIn_app (goodIn_of _ (by decide +kernel)) ggL_law_L_bottles
set_option maxRecDepth 20000 in
theorem ggL_law_X3_bottles : GoodIn wsL_law wsX3_bottles := goodIn_r _ [448, 89, 291, 293, 295, 510, 511, 512, 513, 514, 515, 516, 517, 518, 519, 520, 521, 522] (by decide +kernel) (by decide +kernel)
set_option maxRecDepth 20000 in
theorem gL_law_X3_bottles : GoodIn wsL_law (wsV RL 119 RX3 yX3_bottles wsX3_bottles) := goodIn_app (goodIn_of _ (by decide +kernel)) ggL_law_X3_bottles
set_option maxRecDepth 20000 in
theorem ggL_law_X2_years : GoodIn wsL_law wsX2_years := goodIn_r _ [452, 21, 506, 507, 508, 509] (by decide +kernel) (by decide +kernel)
set_option maxRecDepth 20000 in
theorem gL_law_X2_years : GoodIn wsL_law (wsV RL 120 RX2 yX2_years wsX2_years) := goodIn_app (goodIn_of _ (by decide +kernel)) ggL_law_X2_years
set_option maxRecDepth 20000 in
theorem ggL_law_X3_years : GoodIn wsL_law wsX3_years := goodIn_r _ [456, 89, 225, 510, 511, 512, 513, 514, 515, 516, 517, 518, 519, 520, 521, 522] (by decide +kernel) (by decide +kernel)
set_option maxRecDepth 20000 in
theorem gL_law_X3_years : GoodIn wsL_law (wsV RL 123 RX3 yX3_years wsX3_years) := goodIn_app (goodIn_of _ (by decide +kernel)) ggL_law_X3_years
set_option maxRecDepth 20000 in
theorem ggL_law_X2_meanAge : GoodIn wsL_law wsX2_meanAge := goodIn_r _ [460, 17, 461, 462, 463, 16, 464, 30, 27, 105, 465, 466, 467, 468, 151, 506, 507, 508, 509, 523, 524, 525, 526, 527, 528, 529, 530, 531, 532, 533] (by decide +kernel) (by decide +kernel)
set_option maxRecDepth 20000 in
theorem gL_law_X2_meanAge : GoodIn wsL_law (wsV RL 124 RX2 yX2_meanAge wsX2_meanAge) := goodIn_app (goodIn_of _ (by decide +kernel)) ggL_law_X2_meanAge
set_option maxRecDepth 20000 in
theorem ggL_law_X3_meanAge : GoodIn wsL_law wsX3_meanAge := goodIn_r _ [472, 473, 474, 475, 5, 476, 89, 88, 43, 228, 229, 230, 231, 510, 511, 512, 513, 514, 515, 516, 517, 518, 519, 520, 521, 522] (by decide +kernel) (by decide +kernel)
set_option maxRecDepth 20000 in
theorem gL_law_X3_meanAge : GoodIn wsL_law (wsV RL 127 RX3 yX3_meanAge wsX3_meanAge) := goodIn_app (goodIn_of _ (by decide +kernel)) ggL_law_X3_meanAge
set_option maxRecDepth 20000 in
theorem ggL_law_X2_meanSugar : GoodIn wsL_law wsX2_meanSugar := goodIn_r _ [480, 17, 461, 462, 463, 16, 464, 30, 27, 105, 481, 482, 483, 484, 153, 506, 507, 508, 509, 523, 524, 525, 526, 527, 528, 529, 530, 531, 532, 533] (by decide +kernel) (by decide +kernel)
set_option maxRecDepth 20000 in
theorem gL_law_X2_meanSugar : GoodIn wsL_law (wsV RL 128 RX2 yX2_meanSugar wsX2_meanSugar) := goodIn_app (goodIn_of _ (by decide +kernel)) ggL_law_X2_meanSugar
set_option maxRecDepth 20000 in
theorem ggL_law_X3_meanSugar : GoodIn wsL_law wsX3_meanSugar := goodIn_r _ [488, 473, 474, 475, 5, 476, 89, 88, 43, 228, 229, 230, 231, 510, 511, 512, 513, 514, 515, 516, 517, 518, 519, 520, 521, 522] (by decide +kernel) (by decide +kernel)
set_option maxRecDepth 20000 in
theorem gL_law_X3_meanSugar : GoodIn wsL_law (wsV RL 131 RX3 yX3_meanSugar wsX3_meanSugar) := goodIn_app (goodIn_of _ (by decide +kernel)) ggL_law_X3_meanSugar
set_option maxRecDepth 20000 in
theorem ggL_law_X2_firstBottleIn : GoodIn wsL_law wsX2_firstBottleIn := goodIn_r _ [492, 17, 18, 267, 268, 269, 16, 270, 32, 27, 151, 271, 153, 272, 33, 105, 273, 213, 214, 215, 216, 30, 184, 185, 186, 29, 187, 80, 493, 494, 495, 496, 31, 497, 498, 499, 500, 192, 501, 81, 82, 83, 101, 102, 103, 104, 65, 106, 107, 108, 109, 110, 111, 112, 113, 142, 143, 144, 145, 146, 147, 148, 149, 150, 152, 154, 155, 156, 157, 158, 77, 78, 79, 173, 174, 175, 176, 177, 178, 179, 180, 181, 182, 183, 188, 189, 190, 191, 193, 194, 195, 196, 197, 198, 199, 200, 201, 202, 203, 204, 205, 206, 207, 208, 209, 210, 211, 212, 506, 507, 508, 509, 523, 524, 525, 526, 527, 528, 529, 530, 531, 532, 533] (by decide +kernel) (by decide +kernel)
set_option maxRecDepth 20000 in
theorem gL_law_X2_firstBottleIn : GoodIn wsL_law (wsV RL 132 RX2 yX2_firstBottleIn wsX2_firstBottleIn) := goodIn_app (goodIn_of _ (by decide +kernel)) ggL_law_X2_firstBottleIn
set_option maxRecDepth 20000 in
theorem ggL_law_X3_firstBottleIn : GoodIn wsL_law wsX3_firstBottleIn := goodIn_r _ [505, 89, 88, 44, 43, 225, 46, 227, 296, 297, 298, 5, 299, 242, 294, 241, 256, 257, 258, 259, 228, 229, 230, 231, 122, 123, 124, 118, 119, 120, 121, 42, 125, 126, 127, 128, 129, 130, 131, 132, 133, 134, 135, 136, 137, 163, 164, 165, 166, 167, 168, 221, 222, 223, 224, 226, 232, 233, 234, 235, 41, 236, 237, 238, 239, 240, 243, 244, 245, 246, 247, 248, 249, 250, 251, 252, 253, 254, 45, 255, 510, 511, 512, 513, 514, 515, 516, 517, 518, 519, 520, 521, 522] (by decide +kernel) (by decide +kernel)
set_option maxRecDepth 20000 in
theorem gL_law_X3_firstBottleIn : GoodIn wsL_law (wsV RL 135 RX3 yX3_firstBottleIn wsX3_firstBottleIn) := goodIn_app (goodIn_of _ (by decide +kernel)) ggL_law_X3_firstBottleIn
theorem dL_law_0 : decode cL_law 0 = .ok (.new 8, 3) := by decide +kernel
theorem dL_law_3 : decode cL_law 3 = .ok (.dup, 1) := by decide +kernel
theorem dL_law_4 : decode cL_law 4 = .ok (.invokespecial 52, 3) := by decide +kernel
theorem dL_law_7 : decode cL_law 7 = .ok (.astore_n 1, 1) := by decide +kernel
theorem dL_law_8 : decode cL_law 8 = .ok (.new 53, 3) := by decide +kernel
theorem dL_law_11 : decode cL_law 11 = .ok (.dup, 1) := by decide +kernel
theorem dL_law_12 : decode cL_law 12 = .ok (.invokespecial 55, 3) := by decide +kernel
theorem dL_law_15 : decode cL_law 15 = .ok (.astore_n 2, 1) := by decide +kernel
theorem dL_law_16 : decode cL_law 16 = .ok (.iconst 1, 1) := by decide +kernel
theorem dL_law_17 : decode cL_law 17 = .ok (.newarray .long, 2) := by decide +kernel
theorem dL_law_19 : decode cL_law 19 = .ok (.astore_n 3, 1) := by decide +kernel
theorem dL_law_20 : decode cL_law 20 = .ok (.iconst 1, 1) := by decide +kernel
theorem dL_law_21 : decode cL_law 21 = .ok (.newarray .double, 2) := by decide +kernel
theorem dL_law_23 : decode cL_law 23 = .ok (.astore 4, 2) := by decide +kernel
theorem dL_law_25 : decode cL_law 25 = .ok (.iconst 0, 1) := by decide +kernel
theorem dL_law_26 : decode cL_law 26 = .ok (.istore 5, 2) := by decide +kernel
theorem dL_law_28 : decode cL_law 28 = .ok (.iload 5, 2) := by decide +kernel
theorem dL_law_30 : decode cL_law 30 = .ok (.aload_n 0, 1) := by decide +kernel
theorem dL_law_31 : decode cL_law 31 = .ok (.arraylength, 1) := by decide +kernel
theorem dL_law_32 : decode cL_law 32 = .ok (.iconst 3, 1) := by decide +kernel
theorem dL_law_33 : decode cL_law 33 = .ok (.isub, 1) := by decide +kernel
theorem dL_law_34 : decode cL_law 34 = .ok (.if_icmp .gt 1096, 3) := by decide +kernel
theorem dL_law_37 : decode cL_law 37 = .ok (.aload_n 0, 1) := by decide +kernel
theorem dL_law_38 : decode cL_law 38 = .ok (.iload 5, 2) := by decide +kernel
theorem dL_law_40 : decode cL_law 40 = .ok (.iaload, 1) := by decide +kernel
theorem dL_law_41 : decode cL_law 41 = .ok (.bipush 31, 2) := by decide +kernel
theorem dL_law_43 : decode cL_law 43 = .ok (.iand, 1) := by decide +kernel
theorem dL_law_44 : decode cL_law 44 = .ok (.tableswitch 1080 0 19 #[96, 164, 241, 282, 323, 379, 456, 492, 505, 582, 659, 736, 813, 890, 903, 916, 972, 985, 1026, 1067], 96) := by decide +kernel
theorem dL_law_140 : decode cL_law 140 = .ok (.aload_n 1, 1) := by decide +kernel
theorem dL_law_141 : decode cL_law 141 = .ok (.aload_n 0, 1) := by decide +kernel
theorem dL_law_142 : decode cL_law 142 = .ok (.iload 5, 2) := by decide +kernel
theorem dL_law_144 : decode cL_law 144 = .ok (.iconst 1, 1) := by decide +kernel
theorem dL_law_145 : decode cL_law 145 = .ok (.iadd, 1) := by decide +kernel
theorem dL_law_146 : decode cL_law 146 = .ok (.iaload, 1) := by decide +kernel
theorem dL_law_147 : decode cL_law 147 = .ok (.aload_n 0, 1) := by decide +kernel
theorem dL_law_148 : decode cL_law 148 = .ok (.iload 5, 2) := by decide +kernel
theorem dL_law_150 : decode cL_law 150 = .ok (.iconst 2, 1) := by decide +kernel
theorem dL_law_151 : decode cL_law 151 = .ok (.iadd, 1) := by decide +kernel
theorem dL_law_152 : decode cL_law 152 = .ok (.iaload, 1) := by decide +kernel
theorem dL_law_153 : decode cL_law 153 = .ok (.aload_n 3, 1) := by decide +kernel
theorem dL_law_154 : decode cL_law 154 = .ok (.invokestatic 56, 3) := by decide +kernel
theorem dL_law_157 : decode cL_law 157 = .ok (.istore 6, 2) := by decide +kernel
theorem dL_law_159 : decode cL_law 159 = .ok (.aload_n 2, 1) := by decide +kernel
theorem dL_law_160 : decode cL_law 160 = .ok (.aload_n 0, 1) := by decide +kernel
theorem dL_law_161 : decode cL_law 161 = .ok (.iload 5, 2) := by decide +kernel
theorem dL_law_163 : decode cL_law 163 = .ok (.iconst 1, 1) := by decide +kernel
theorem dL_law_164 : decode cL_law 164 = .ok (.iadd, 1) := by decide +kernel
theorem dL_law_165 : decode cL_law 165 = .ok (.iaload, 1) := by decide +kernel
theorem dL_law_166 : decode cL_law 166 = .ok (.aload_n 0, 1) := by decide +kernel
theorem dL_law_167 : decode cL_law 167 = .ok (.iload 5, 2) := by decide +kernel
theorem dL_law_169 : decode cL_law 169 = .ok (.iconst 2, 1) := by decide +kernel
theorem dL_law_170 : decode cL_law 170 = .ok (.iadd, 1) := by decide +kernel
theorem dL_law_171 : decode cL_law 171 = .ok (.iaload, 1) := by decide +kernel
theorem dL_law_172 : decode cL_law 172 = .ok (.invokevirtual 61, 3) := by decide +kernel
theorem dL_law_175 : decode cL_law 175 = .ok (.istore 7, 2) := by decide +kernel
theorem dL_law_177 : decode cL_law 177 = .ok (.aload_n 2, 1) := by decide +kernel
theorem dL_law_178 : decode cL_law 178 = .ok (.invokevirtual 62, 3) := by decide +kernel
theorem dL_law_181 : decode cL_law 181 = .ok (.iload 6, 2) := by decide +kernel
theorem dL_law_183 : decode cL_law 183 = .ok (.if_icmp .eq 5, 3) := by decide +kernel
theorem dL_law_186 : decode cL_law 186 = .ok (.iconst 0, 1) := by decide +kernel
theorem dL_law_187 : decode cL_law 187 = .ok (.ireturn, 1) := by decide +kernel
theorem dL_law_188 : decode cL_law 188 = .ok (.iload 6, 2) := by decide +kernel
theorem dL_law_190 : decode cL_law 190 = .ok (.ifCond .ne 15, 3) := by decide +kernel
theorem dL_law_193 : decode cL_law 193 = .ok (.aload_n 3, 1) := by decide +kernel
theorem dL_law_194 : decode cL_law 194 = .ok (.iconst 0, 1) := by decide +kernel
theorem dL_law_195 : decode cL_law 195 = .ok (.laload, 1) := by decide +kernel
theorem dL_law_196 : decode cL_law 196 = .ok (.iload 7, 2) := by decide +kernel
theorem dL_law_198 : decode cL_law 198 = .ok (.i2l, 1) := by decide +kernel
theorem dL_law_199 : decode cL_law 199 = .ok (.lcmp, 1) := by decide +kernel
theorem dL_law_200 : decode cL_law 200 = .ok (.ifCond .eq 5, 3) := by decide +kernel
theorem dL_law_203 : decode cL_law 203 = .ok (.iconst 0, 1) := by decide +kernel
theorem dL_law_204 : decode cL_law 204 = .ok (.ireturn, 1) := by decide +kernel
theorem dL_law_205 : decode cL_law 205 = .ok (.goto 919, 3) := by decide +kernel
theorem dL_law_208 : decode cL_law 208 = .ok (.aload_n 1, 1) := by decide +kernel
theorem dL_law_209 : decode cL_law 209 = .ok (.aload_n 0, 1) := by decide +kernel
theorem dL_law_210 : decode cL_law 210 = .ok (.iload 5, 2) := by decide +kernel
theorem dL_law_212 : decode cL_law 212 = .ok (.iconst 1, 1) := by decide +kernel
theorem dL_law_213 : decode cL_law 213 = .ok (.iadd, 1) := by decide +kernel
end
section
theorem dL_law_214 : decode cL_law 214 = .ok (.iaload, 1) := by decide +kernel
theorem dL_law_215 : decode cL_law 215 = .ok (.aload 4, 2) := by decide +kernel
theorem dL_law_217 : decode cL_law 217 = .ok (.invokestatic 66, 3) := by decide +kernel
theorem dL_law_220 : decode cL_law 220 = .ok (.istore 6, 2) := by decide +kernel
theorem dL_law_222 : decode cL_law 222 = .ok (.aload_n 2, 1) := by decide +kernel
theorem dL_law_223 : decode cL_law 223 = .ok (.aload_n 0, 1) := by decide +kernel
theorem dL_law_224 : decode cL_law 224 = .ok (.iload 5, 2) := by decide +kernel
theorem dL_law_226 : decode cL_law 226 = .ok (.iconst 1, 1) := by decide +kernel
theorem dL_law_227 : decode cL_law 227 = .ok (.iadd, 1) := by decide +kernel
theorem dL_law_228 : decode cL_law 228 = .ok (.iaload, 1) := by decide +kernel
theorem dL_law_229 : decode cL_law 229 = .ok (.invokevirtual 69, 3) := by decide +kernel
theorem dL_law_232 : decode cL_law 232 = .ok (.dstore 7, 2) := by decide +kernel
theorem dL_law_234 : decode cL_law 234 = .ok (.aload_n 2, 1) := by decide +kernel
theorem dL_law_235 : decode cL_law 235 = .ok (.invokevirtual 62, 3) := by decide +kernel
theorem dL_law_238 : decode cL_law 238 = .ok (.iload 6, 2) := by decide +kernel
theorem dL_law_240 : decode cL_law 240 = .ok (.if_icmp .eq 5, 3) := by decide +kernel
theorem dL_law_243 : decode cL_law 243 = .ok (.iconst 0, 1) := by decide +kernel
theorem dL_law_244 : decode cL_law 244 = .ok (.ireturn, 1) := by decide +kernel
theorem dL_law_245 : decode cL_law 245 = .ok (.iload 6, 2) := by decide +kernel
theorem dL_law_247 : decode cL_law 247 = .ok (.ifCond .ne 35, 3) := by decide +kernel
theorem dL_law_250 : decode cL_law 250 = .ok (.aload 4, 2) := by decide +kernel
theorem dL_law_252 : decode cL_law 252 = .ok (.iconst 0, 1) := by decide +kernel
theorem dL_law_253 : decode cL_law 253 = .ok (.daload, 1) := by decide +kernel
theorem dL_law_254 : decode cL_law 254 = .ok (.dload 7, 2) := by decide +kernel
theorem dL_law_256 : decode cL_law 256 = .ok (.dcmp .l, 1) := by decide +kernel
theorem dL_law_257 : decode cL_law 257 = .ok (.ifCond .eq 25, 3) := by decide +kernel
theorem dL_law_260 : decode cL_law 260 = .ok (.aload 4, 2) := by decide +kernel
theorem dL_law_262 : decode cL_law 262 = .ok (.iconst 0, 1) := by decide +kernel
theorem dL_law_263 : decode cL_law 263 = .ok (.daload, 1) := by decide +kernel
theorem dL_law_264 : decode cL_law 264 = .ok (.aload 4, 2) := by decide +kernel
theorem dL_law_266 : decode cL_law 266 = .ok (.iconst 0, 1) := by decide +kernel
theorem dL_law_267 : decode cL_law 267 = .ok (.daload, 1) := by decide +kernel
theorem dL_law_268 : decode cL_law 268 = .ok (.dcmp .l, 1) := by decide +kernel
theorem dL_law_269 : decode cL_law 269 = .ok (.ifCond .eq 11, 3) := by decide +kernel
theorem dL_law_272 : decode cL_law 272 = .ok (.dload 7, 2) := by decide +kernel
theorem dL_law_274 : decode cL_law 274 = .ok (.dload 7, 2) := by decide +kernel
theorem dL_law_276 : decode cL_law 276 = .ok (.dcmp .l, 1) := by decide +kernel
theorem dL_law_277 : decode cL_law 277 = .ok (.ifCond .ne 5, 3) := by decide +kernel
theorem dL_law_280 : decode cL_law 280 = .ok (.iconst 0, 1) := by decide +kernel
theorem dL_law_281 : decode cL_law 281 = .ok (.ireturn, 1) := by decide +kernel
theorem dL_law_282 : decode cL_law 282 = .ok (.goto 842, 3) := by decide +kernel
theorem dL_law_285 : decode cL_law 285 = .ok (.aload_n 1, 1) := by decide +kernel
theorem dL_law_286 : decode cL_law 286 = .ok (.invokevirtual 70, 3) := by decide +kernel
theorem dL_law_289 : decode cL_law 289 = .ok (.dstore 6, 2) := by decide +kernel
theorem dL_law_291 : decode cL_law 291 = .ok (.aload_n 2, 1) := by decide +kernel
theorem dL_law_292 : decode cL_law 292 = .ok (.invokevirtual 74, 3) := by decide +kernel
theorem dL_law_295 : decode cL_law 295 = .ok (.dstore 8, 2) := by decide +kernel
theorem dL_law_297 : decode cL_law 297 = .ok (.dload 6, 2) := by decide +kernel
theorem dL_law_299 : decode cL_law 299 = .ok (.dload 8, 2) := by decide +kernel
theorem dL_law_301 : decode cL_law 301 = .ok (.dcmp .l, 1) := by decide +kernel
theorem dL_law_302 : decode cL_law 302 = .ok (.ifCond .eq 21, 3) := by decide +kernel
theorem dL_law_305 : decode cL_law 305 = .ok (.dload 6, 2) := by decide +kernel
theorem dL_law_307 : decode cL_law 307 = .ok (.dload 6, 2) := by decide +kernel
theorem dL_law_309 : decode cL_law 309 = .ok (.dcmp .l, 1) := by decide +kernel
theorem dL_law_310 : decode cL_law 310 = .ok (.ifCond .eq 11, 3) := by decide +kernel
theorem dL_law_313 : decode cL_law 313 = .ok (.dload 8, 2) := by decide +kernel
theorem dL_law_315 : decode cL_law 315 = .ok (.dload 8, 2) := by decide +kernel
theorem dL_law_317 : decode cL_law 317 = .ok (.dcmp .l, 1) := by decide +kernel
theorem dL_law_318 : decode cL_law 318 = .ok (.ifCond .ne 5, 3) := by decide +kernel
theorem dL_law_321 : decode cL_law 321 = .ok (.iconst 0, 1) := by decide +kernel
theorem dL_law_322 : decode cL_law 322 = .ok (.ireturn, 1) := by decide +kernel
theorem dL_law_323 : decode cL_law 323 = .ok (.goto 801, 3) := by decide +kernel
theorem dL_law_326 : decode cL_law 326 = .ok (.aload_n 1, 1) := by decide +kernel
theorem dL_law_327 : decode cL_law 327 = .ok (.invokevirtual 75, 3) := by decide +kernel
theorem dL_law_330 : decode cL_law 330 = .ok (.dstore 6, 2) := by decide +kernel
theorem dL_law_332 : decode cL_law 332 = .ok (.aload_n 2, 1) := by decide +kernel
theorem dL_law_333 : decode cL_law 333 = .ok (.invokevirtual 78, 3) := by decide +kernel
theorem dL_law_336 : decode cL_law 336 = .ok (.dstore 8, 2) := by decide +kernel
theorem dL_law_338 : decode cL_law 338 = .ok (.dload 6, 2) := by decide +kernel
theorem dL_law_340 : decode cL_law 340 = .ok (.dload 8, 2) := by decide +kernel
theorem dL_law_342 : decode cL_law 342 = .ok (.dcmp .l, 1) := by decide +kernel
theorem dL_law_343 : decode cL_law 343 = .ok (.ifCond .eq 21, 3) := by decide +kernel
theorem dL_law_346 : decode cL_law 346 = .ok (.dload 6, 2) := by decide +kernel
theorem dL_law_348 : decode cL_law 348 = .ok (.dload 6, 2) := by decide +kernel
theorem dL_law_350 : decode cL_law 350 = .ok (.dcmp .l, 1) := by decide +kernel
theorem dL_law_351 : decode cL_law 351 = .ok (.ifCond .eq 11, 3) := by decide +kernel
theorem dL_law_354 : decode cL_law 354 = .ok (.dload 8, 2) := by decide +kernel
theorem dL_law_356 : decode cL_law 356 = .ok (.dload 8, 2) := by decide +kernel
theorem dL_law_358 : decode cL_law 358 = .ok (.dcmp .l, 1) := by decide +kernel
theorem dL_law_359 : decode cL_law 359 = .ok (.ifCond .ne 5, 3) := by decide +kernel
theorem dL_law_362 : decode cL_law 362 = .ok (.iconst 0, 1) := by decide +kernel
theorem dL_law_363 : decode cL_law 363 = .ok (.ireturn, 1) := by decide +kernel
theorem dL_law_364 : decode cL_law 364 = .ok (.goto 760, 3) := by decide +kernel
theorem dL_law_367 : decode cL_law 367 = .ok (.aload_n 1, 1) := by decide +kernel
theorem dL_law_368 : decode cL_law 368 = .ok (.aload_n 0, 1) := by decide +kernel
theorem dL_law_369 : decode cL_law 369 = .ok (.iload 5, 2) := by decide +kernel
theorem dL_law_371 : decode cL_law 371 = .ok (.iconst 1, 1) := by decide +kernel
theorem dL_law_372 : decode cL_law 372 = .ok (.iadd, 1) := by decide +kernel
theorem dL_law_373 : decode cL_law 373 = .ok (.iaload, 1) := by decide +kernel
theorem dL_law_374 : decode cL_law 374 = .ok (.aload_n 3, 1) := by decide +kernel
theorem dL_law_375 : decode cL_law 375 = .ok (.invokestatic 79, 3) := by decide +kernel
theorem dL_law_378 : decode cL_law 378 = .ok (.istore 6, 2) := by decide +kernel
theorem dL_law_380 : decode cL_law 380 = .ok (.aload_n 2, 1) := by decide +kernel
theorem dL_law_381 : decode cL_law 381 = .ok (.aload_n 0, 1) := by decide +kernel
theorem dL_law_382 : decode cL_law 382 = .ok (.iload 5, 2) := by decide +kernel
theorem dL_law_384 : decode cL_law 384 = .ok (.iconst 1, 1) := by decide +kernel
theorem dL_law_385 : decode cL_law 385 = .ok (.iadd, 1) := by decide +kernel
theorem dL_law_386 : decode cL_law 386 = .ok (.iaload, 1) := by decide +kernel
theorem dL_law_387 : decode cL_law 387 = .ok (.invokevirtual 82, 3) := by decide +kernel
theorem dL_law_390 : decode cL_law 390 = .ok (.istore 7, 2) := by decide +kernel
theorem dL_law_392 : decode cL_law 392 = .ok (.aload_n 2, 1) := by decide +kernel
theorem dL_law_393 : decode cL_law 393 = .ok (.invokevirtual 62, 3) := by decide +kernel
theorem dL_law_396 : decode cL_law 396 = .ok (.iload 6, 2) := by decide +kernel
theorem dL_law_398 : decode cL_law 398 = .ok (.if_icmp .eq 5, 3) := by decide +kernel
theorem dL_law_401 : decode cL_law 401 = .ok (.iconst 0, 1) := by decide +kernel
theorem dL_law_402 : decode cL_law 402 = .ok (.ireturn, 1) := by decide +kernel
theorem dL_law_403 : decode cL_law 403 = .ok (.iload 6, 2) := by decide +kernel
theorem dL_law_405 : decode cL_law 405 = .ok (.ifCond .ne 15, 3) := by decide +kernel
theorem dL_law_408 : decode cL_law 408 = .ok (.aload_n 3, 1) := by decide +kernel
theorem dL_law_409 : decode cL_law 409 = .ok (.iconst 0, 1) := by decide +kernel
theorem dL_law_410 : decode cL_law 410 = .ok (.laload, 1) := by decide +kernel
theorem dL_law_411 : decode cL_law 411 = .ok (.iload 7, 2) := by decide +kernel
theorem dL_law_413 : decode cL_law 413 = .ok (.i2l, 1) := by decide +kernel
theorem dL_law_414 : decode cL_law 414 = .ok (.lcmp, 1) := by decide +kernel
theorem dL_law_415 : decode cL_law 415 = .ok (.ifCond .eq 5, 3) := by decide +kernel
theorem dL_law_418 : decode cL_law 418 = .ok (.iconst 0, 1) := by decide +kernel
theorem dL_law_419 : decode cL_law 419 = .ok (.ireturn, 1) := by decide +kernel
theorem dL_law_420 : decode cL_law 420 = .ok (.goto 704, 3) := by decide +kernel
theorem dL_law_423 : decode cL_law 423 = .ok (.aload_n 1, 1) := by decide +kernel
theorem dL_law_424 : decode cL_law 424 = .ok (.aload_n 0, 1) := by decide +kernel
theorem dL_law_425 : decode cL_law 425 = .ok (.iload 5, 2) := by decide +kernel
theorem dL_law_427 : decode cL_law 427 = .ok (.iconst 1, 1) := by decide +kernel
theorem dL_law_428 : decode cL_law 428 = .ok (.iadd, 1) := by decide +kernel
theorem dL_law_429 : decode cL_law 429 = .ok (.iaload, 1) := by decide +kernel
theorem dL_law_430 : decode cL_law 430 = .ok (.aload 4, 2) := by decide +kernel
theorem dL_law_432 : decode cL_law 432 = .ok (.invokestatic 83, 3) := by decide +kernel
theorem dL_law_435 : decode cL_law 435 = .ok (.istore 6, 2) := by decide +kernel
theorem dL_law_437 : decode cL_law 437 = .ok (.aload_n 2, 1) := by decide +kernel
theorem dL_law_438 : decode cL_law 438 = .ok (.aload_n 0, 1) := by decide +kernel
theorem dL_law_439 : decode cL_law 439 = .ok (.iload 5, 2) := by decide +kernel
theorem dL_law_441 : decode cL_law 441 = .ok (.iconst 1, 1) := by decide +kernel
theorem dL_law_442 : decode cL_law 442 = .ok (.iadd, 1) := by decide +kernel
theorem dL_law_443 : decode cL_law 443 = .ok (.iaload, 1) := by decide +kernel
theorem dL_law_444 : decode cL_law 444 = .ok (.invokevirtual 85, 3) := by decide +kernel
theorem dL_law_447 : decode cL_law 447 = .ok (.dstore 7, 2) := by decide +kernel
theorem dL_law_449 : decode cL_law 449 = .ok (.aload_n 2, 1) := by decide +kernel
theorem dL_law_450 : decode cL_law 450 = .ok (.invokevirtual 62, 3) := by decide +kernel
theorem dL_law_453 : decode cL_law 453 = .ok (.iload 6, 2) := by decide +kernel
theorem dL_law_455 : decode cL_law 455 = .ok (.if_icmp .eq 5, 3) := by decide +kernel
theorem dL_law_458 : decode cL_law 458 = .ok (.iconst 0, 1) := by decide +kernel
theorem dL_law_459 : decode cL_law 459 = .ok (.ireturn, 1) := by decide +kernel
theorem dL_law_460 : decode cL_law 460 = .ok (.iload 6, 2) := by decide +kernel
theorem dL_law_462 : decode cL_law 462 = .ok (.ifCond .ne 35, 3) := by decide +kernel
theorem dL_law_465 : decode cL_law 465 = .ok (.aload 4, 2) := by decide +kernel
theorem dL_law_467 : decode cL_law 467 = .ok (.iconst 0, 1) := by decide +kernel
theorem dL_law_468 : decode cL_law 468 = .ok (.daload, 1) := by decide +kernel
theorem dL_law_469 : decode cL_law 469 = .ok (.dload 7, 2) := by decide +kernel
theorem dL_law_471 : decode cL_law 471 = .ok (.dcmp .l, 1) := by decide +kernel
theorem dL_law_472 : decode cL_law 472 = .ok (.ifCond .eq 25, 3) := by decide +kernel
theorem dL_law_475 : decode cL_law 475 = .ok (.aload 4, 2) := by decide +kernel
theorem dL_law_477 : decode cL_law 477 = .ok (.iconst 0, 1) := by decide +kernel
theorem dL_law_478 : decode cL_law 478 = .ok (.daload, 1) := by decide +kernel
theorem dL_law_479 : decode cL_law 479 = .ok (.aload 4, 2) := by decide +kernel
theorem dL_law_481 : decode cL_law 481 = .ok (.iconst 0, 1) := by decide +kernel
theorem dL_law_482 : decode cL_law 482 = .ok (.daload, 1) := by decide +kernel
theorem dL_law_483 : decode cL_law 483 = .ok (.dcmp .l, 1) := by decide +kernel
theorem dL_law_484 : decode cL_law 484 = .ok (.ifCond .eq 11, 3) := by decide +kernel
theorem dL_law_487 : decode cL_law 487 = .ok (.dload 7, 2) := by decide +kernel
theorem dL_law_489 : decode cL_law 489 = .ok (.dload 7, 2) := by decide +kernel
theorem dL_law_491 : decode cL_law 491 = .ok (.dcmp .l, 1) := by decide +kernel
theorem dL_law_492 : decode cL_law 492 = .ok (.ifCond .ne 5, 3) := by decide +kernel
theorem dL_law_495 : decode cL_law 495 = .ok (.iconst 0, 1) := by decide +kernel
theorem dL_law_496 : decode cL_law 496 = .ok (.ireturn, 1) := by decide +kernel
theorem dL_law_497 : decode cL_law 497 = .ok (.goto 627, 3) := by decide +kernel
theorem dL_law_500 : decode cL_law 500 = .ok (.aload_n 1, 1) := by decide +kernel
theorem dL_law_501 : decode cL_law 501 = .ok (.aload_n 0, 1) := by decide +kernel
theorem dL_law_502 : decode cL_law 502 = .ok (.iload 5, 2) := by decide +kernel
theorem dL_law_504 : decode cL_law 504 = .ok (.iconst 1, 1) := by decide +kernel
theorem dL_law_505 : decode cL_law 505 = .ok (.iadd, 1) := by decide +kernel
theorem dL_law_506 : decode cL_law 506 = .ok (.iaload, 1) := by decide +kernel
theorem dL_law_507 : decode cL_law 507 = .ok (.invokestatic 86, 3) := by decide +kernel
theorem dL_law_510 : decode cL_law 510 = .ok (.istore 6, 2) := by decide +kernel
theorem dL_law_512 : decode cL_law 512 = .ok (.aload_n 2, 1) := by decide +kernel
theorem dL_law_513 : decode cL_law 513 = .ok (.aload_n 0, 1) := by decide +kernel
theorem dL_law_514 : decode cL_law 514 = .ok (.iload 5, 2) := by decide +kernel
theorem dL_law_516 : decode cL_law 516 = .ok (.iconst 1, 1) := by decide +kernel
theorem dL_law_517 : decode cL_law 517 = .ok (.iadd, 1) := by decide +kernel
theorem dL_law_518 : decode cL_law 518 = .ok (.iaload, 1) := by decide +kernel
theorem dL_law_519 : decode cL_law 519 = .ok (.invokevirtual 89, 3) := by decide +kernel
theorem dL_law_522 : decode cL_law 522 = .ok (.aload_n 2, 1) := by decide +kernel
theorem dL_law_523 : decode cL_law 523 = .ok (.invokevirtual 62, 3) := by decide +kernel
theorem dL_law_526 : decode cL_law 526 = .ok (.iload 6, 2) := by decide +kernel
theorem dL_law_528 : decode cL_law 528 = .ok (.if_icmp .eq 5, 3) := by decide +kernel
theorem dL_law_531 : decode cL_law 531 = .ok (.iconst 0, 1) := by decide +kernel
theorem dL_law_532 : decode cL_law 532 = .ok (.ireturn, 1) := by decide +kernel
theorem dL_law_533 : decode cL_law 533 = .ok (.goto 591, 3) := by decide +kernel
theorem dL_law_536 : decode cL_law 536 = .ok (.aload_n 1, 1) := by decide +kernel
theorem dL_law_537 : decode cL_law 537 = .ok (.invokevirtual 90, 3) := by decide +kernel
theorem dL_law_540 : decode cL_law 540 = .ok (.aload_n 2, 1) := by decide +kernel
theorem dL_law_541 : decode cL_law 541 = .ok (.invokevirtual 93, 3) := by decide +kernel
theorem dL_law_544 : decode cL_law 544 = .ok (.if_icmp .eq 580, 3) := by decide +kernel
theorem dL_law_547 : decode cL_law 547 = .ok (.iconst 0, 1) := by decide +kernel
theorem dL_law_548 : decode cL_law 548 = .ok (.ireturn, 1) := by decide +kernel
theorem dL_law_549 : decode cL_law 549 = .ok (.aload_n 1, 1) := by decide +kernel
theorem dL_law_550 : decode cL_law 550 = .ok (.aload_n 0, 1) := by decide +kernel
theorem dL_law_551 : decode cL_law 551 = .ok (.iload 5, 2) := by decide +kernel
theorem dL_law_553 : decode cL_law 553 = .ok (.iconst 1, 1) := by decide +kernel
theorem dL_law_554 : decode cL_law 554 = .ok (.iadd, 1) := by decide +kernel
theorem dL_law_555 : decode cL_law 555 = .ok (.iaload, 1) := by decide +kernel
theorem dL_law_556 : decode cL_law 556 = .ok (.aload 4, 2) := by decide +kernel
theorem dL_law_558 : decode cL_law 558 = .ok (.invokestatic 94, 3) := by decide +kernel
theorem dL_law_561 : decode cL_law 561 = .ok (.istore 6, 2) := by decide +kernel
theorem dL_law_563 : decode cL_law 563 = .ok (.aload_n 2, 1) := by decide +kernel
theorem dL_law_564 : decode cL_law 564 = .ok (.aload_n 0, 1) := by decide +kernel
theorem dL_law_565 : decode cL_law 565 = .ok (.iload 5, 2) := by decide +kernel
theorem dL_law_567 : decode cL_law 567 = .ok (.iconst 1, 1) := by decide +kernel
theorem dL_law_568 : decode cL_law 568 = .ok (.iadd, 1) := by decide +kernel
theorem dL_law_569 : decode cL_law 569 = .ok (.iaload, 1) := by decide +kernel
theorem dL_law_570 : decode cL_law 570 = .ok (.invokevirtual 96, 3) := by decide +kernel
theorem dL_law_573 : decode cL_law 573 = .ok (.dstore 7, 2) := by decide +kernel
theorem dL_law_575 : decode cL_law 575 = .ok (.aload_n 2, 1) := by decide +kernel
theorem dL_law_576 : decode cL_law 576 = .ok (.invokevirtual 62, 3) := by decide +kernel
theorem dL_law_579 : decode cL_law 579 = .ok (.iload 6, 2) := by decide +kernel
theorem dL_law_581 : decode cL_law 581 = .ok (.if_icmp .eq 5, 3) := by decide +kernel
theorem dL_law_584 : decode cL_law 584 = .ok (.iconst 0, 1) := by decide +kernel
theorem dL_law_585 : decode cL_law 585 = .ok (.ireturn, 1) := by decide +kernel
theorem dL_law_586 : decode cL_law 586 = .ok (.iload 6, 2) := by decide +kernel
theorem dL_law_588 : decode cL_law 588 = .ok (.ifCond .ne 35, 3) := by decide +kernel
theorem dL_law_591 : decode cL_law 591 = .ok (.aload 4, 2) := by decide +kernel
theorem dL_law_593 : decode cL_law 593 = .ok (.iconst 0, 1) := by decide +kernel
theorem dL_law_594 : decode cL_law 594 = .ok (.daload, 1) := by decide +kernel
theorem dL_law_595 : decode cL_law 595 = .ok (.dload 7, 2) := by decide +kernel
theorem dL_law_597 : decode cL_law 597 = .ok (.dcmp .l, 1) := by decide +kernel
theorem dL_law_598 : decode cL_law 598 = .ok (.ifCond .eq 25, 3) := by decide +kernel
theorem dL_law_601 : decode cL_law 601 = .ok (.aload 4, 2) := by decide +kernel
theorem dL_law_603 : decode cL_law 603 = .ok (.iconst 0, 1) := by decide +kernel
theorem dL_law_604 : decode cL_law 604 = .ok (.daload, 1) := by decide +kernel
theorem dL_law_605 : decode cL_law 605 = .ok (.aload 4, 2) := by decide +kernel
theorem dL_law_607 : decode cL_law 607 = .ok (.iconst 0, 1) := by decide +kernel
theorem dL_law_608 : decode cL_law 608 = .ok (.daload, 1) := by decide +kernel
theorem dL_law_609 : decode cL_law 609 = .ok (.dcmp .l, 1) := by decide +kernel
theorem dL_law_610 : decode cL_law 610 = .ok (.ifCond .eq 11, 3) := by decide +kernel
theorem dL_law_613 : decode cL_law 613 = .ok (.dload 7, 2) := by decide +kernel
theorem dL_law_615 : decode cL_law 615 = .ok (.dload 7, 2) := by decide +kernel
theorem dL_law_617 : decode cL_law 617 = .ok (.dcmp .l, 1) := by decide +kernel
theorem dL_law_618 : decode cL_law 618 = .ok (.ifCond .ne 5, 3) := by decide +kernel
theorem dL_law_621 : decode cL_law 621 = .ok (.iconst 0, 1) := by decide +kernel
theorem dL_law_622 : decode cL_law 622 = .ok (.ireturn, 1) := by decide +kernel
theorem dL_law_623 : decode cL_law 623 = .ok (.goto 501, 3) := by decide +kernel
theorem dL_law_626 : decode cL_law 626 = .ok (.aload_n 1, 1) := by decide +kernel
theorem dL_law_627 : decode cL_law 627 = .ok (.aload_n 0, 1) := by decide +kernel
theorem dL_law_628 : decode cL_law 628 = .ok (.iload 5, 2) := by decide +kernel
theorem dL_law_630 : decode cL_law 630 = .ok (.iconst 1, 1) := by decide +kernel
theorem dL_law_631 : decode cL_law 631 = .ok (.iadd, 1) := by decide +kernel
theorem dL_law_632 : decode cL_law 632 = .ok (.iaload, 1) := by decide +kernel
theorem dL_law_633 : decode cL_law 633 = .ok (.aload 4, 2) := by decide +kernel
theorem dL_law_635 : decode cL_law 635 = .ok (.invokestatic 97, 3) := by decide +kernel
theorem dL_law_638 : decode cL_law 638 = .ok (.istore 6, 2) := by decide +kernel
theorem dL_law_640 : decode cL_law 640 = .ok (.aload_n 2, 1) := by decide +kernel
theorem dL_law_641 : decode cL_law 641 = .ok (.aload_n 0, 1) := by decide +kernel
theorem dL_law_642 : decode cL_law 642 = .ok (.iload 5, 2) := by decide +kernel
theorem dL_law_644 : decode cL_law 644 = .ok (.iconst 1, 1) := by decide +kernel
theorem dL_law_645 : decode cL_law 645 = .ok (.iadd, 1) := by decide +kernel
theorem dL_law_646 : decode cL_law 646 = .ok (.iaload, 1) := by decide +kernel
theorem dL_law_647 : decode cL_law 647 = .ok (.invokevirtual 99, 3) := by decide +kernel
theorem dL_law_650 : decode cL_law 650 = .ok (.dstore 7, 2) := by decide +kernel
theorem dL_law_652 : decode cL_law 652 = .ok (.aload_n 2, 1) := by decide +kernel
theorem dL_law_653 : decode cL_law 653 = .ok (.invokevirtual 62, 3) := by decide +kernel
theorem dL_law_656 : decode cL_law 656 = .ok (.iload 6, 2) := by decide +kernel
theorem dL_law_658 : decode cL_law 658 = .ok (.if_icmp .eq 5, 3) := by decide +kernel
theorem dL_law_661 : decode cL_law 661 = .ok (.iconst 0, 1) := by decide +kernel
theorem dL_law_662 : decode cL_law 662 = .ok (.ireturn, 1) := by decide +kernel
theorem dL_law_663 : decode cL_law 663 = .ok (.iload 6, 2) := by decide +kernel
theorem dL_law_665 : decode cL_law 665 = .ok (.ifCond .ne 35, 3) := by decide +kernel
theorem dL_law_668 : decode cL_law 668 = .ok (.aload 4, 2) := by decide +kernel
theorem dL_law_670 : decode cL_law 670 = .ok (.iconst 0, 1) := by decide +kernel
theorem dL_law_671 : decode cL_law 671 = .ok (.daload, 1) := by decide +kernel
theorem dL_law_672 : decode cL_law 672 = .ok (.dload 7, 2) := by decide +kernel
theorem dL_law_674 : decode cL_law 674 = .ok (.dcmp .l, 1) := by decide +kernel
theorem dL_law_675 : decode cL_law 675 = .ok (.ifCond .eq 25, 3) := by decide +kernel
theorem dL_law_678 : decode cL_law 678 = .ok (.aload 4, 2) := by decide +kernel
theorem dL_law_680 : decode cL_law 680 = .ok (.iconst 0, 1) := by decide +kernel
theorem dL_law_681 : decode cL_law 681 = .ok (.daload, 1) := by decide +kernel
theorem dL_law_682 : decode cL_law 682 = .ok (.aload 4, 2) := by decide +kernel
theorem dL_law_684 : decode cL_law 684 = .ok (.iconst 0, 1) := by decide +kernel
theorem dL_law_685 : decode cL_law 685 = .ok (.daload, 1) := by decide +kernel
theorem dL_law_686 : decode cL_law 686 = .ok (.dcmp .l, 1) := by decide +kernel
theorem dL_law_687 : decode cL_law 687 = .ok (.ifCond .eq 11, 3) := by decide +kernel
theorem dL_law_690 : decode cL_law 690 = .ok (.dload 7, 2) := by decide +kernel
theorem dL_law_692 : decode cL_law 692 = .ok (.dload 7, 2) := by decide +kernel
theorem dL_law_694 : decode cL_law 694 = .ok (.dcmp .l, 1) := by decide +kernel
theorem dL_law_695 : decode cL_law 695 = .ok (.ifCond .ne 5, 3) := by decide +kernel
theorem dL_law_698 : decode cL_law 698 = .ok (.iconst 0, 1) := by decide +kernel
theorem dL_law_699 : decode cL_law 699 = .ok (.ireturn, 1) := by decide +kernel
theorem dL_law_700 : decode cL_law 700 = .ok (.goto 424, 3) := by decide +kernel
theorem dL_law_703 : decode cL_law 703 = .ok (.aload_n 1, 1) := by decide +kernel
theorem dL_law_704 : decode cL_law 704 = .ok (.aload_n 0, 1) := by decide +kernel
theorem dL_law_705 : decode cL_law 705 = .ok (.iload 5, 2) := by decide +kernel
theorem dL_law_707 : decode cL_law 707 = .ok (.iconst 1, 1) := by decide +kernel
theorem dL_law_708 : decode cL_law 708 = .ok (.iadd, 1) := by decide +kernel
theorem dL_law_709 : decode cL_law 709 = .ok (.iaload, 1) := by decide +kernel
theorem dL_law_710 : decode cL_law 710 = .ok (.aload 4, 2) := by decide +kernel
theorem dL_law_712 : decode cL_law 712 = .ok (.invokestatic 100, 3) := by decide +kernel
theorem dL_law_715 : decode cL_law 715 = .ok (.istore 6, 2) := by decide +kernel
theorem dL_law_717 : decode cL_law 717 = .ok (.aload_n 2, 1) := by decide +kernel
theorem dL_law_718 : decode cL_law 718 = .ok (.aload_n 0, 1) := by decide +kernel
theorem dL_law_719 : decode cL_law 719 = .ok (.iload 5, 2) := by decide +kernel
theorem dL_law_721 : decode cL_law 721 = .ok (.iconst 1, 1) := by decide +kernel
theorem dL_law_722 : decode cL_law 722 = .ok (.iadd, 1) := by decide +kernel
theorem dL_law_723 : decode cL_law 723 = .ok (.iaload, 1) := by decide +kernel
theorem dL_law_724 : decode cL_law 724 = .ok (.invokevirtual 102, 3) := by decide +kernel
theorem dL_law_727 : decode cL_law 727 = .ok (.dstore 7, 2) := by decide +kernel
theorem dL_law_729 : decode cL_law 729 = .ok (.aload_n 2, 1) := by decide +kernel
theorem dL_law_730 : decode cL_law 730 = .ok (.invokevirtual 62, 3) := by decide +kernel
theorem dL_law_733 : decode cL_law 733 = .ok (.iload 6, 2) := by decide +kernel
theorem dL_law_735 : decode cL_law 735 = .ok (.if_icmp .eq 5, 3) := by decide +kernel
theorem dL_law_738 : decode cL_law 738 = .ok (.iconst 0, 1) := by decide +kernel
theorem dL_law_739 : decode cL_law 739 = .ok (.ireturn, 1) := by decide +kernel
theorem dL_law_740 : decode cL_law 740 = .ok (.iload 6, 2) := by decide +kernel
theorem dL_law_742 : decode cL_law 742 = .ok (.ifCond .ne 35, 3) := by decide +kernel
theorem dL_law_745 : decode cL_law 745 = .ok (.aload 4, 2) := by decide +kernel
theorem dL_law_747 : decode cL_law 747 = .ok (.iconst 0, 1) := by decide +kernel
theorem dL_law_748 : decode cL_law 748 = .ok (.daload, 1) := by decide +kernel
theorem dL_law_749 : decode cL_law 749 = .ok (.dload 7, 2) := by decide +kernel
theorem dL_law_751 : decode cL_law 751 = .ok (.dcmp .l, 1) := by decide +kernel
theorem dL_law_752 : decode cL_law 752 = .ok (.ifCond .eq 25, 3) := by decide +kernel
theorem dL_law_755 : decode cL_law 755 = .ok (.aload 4, 2) := by decide +kernel
theorem dL_law_757 : decode cL_law 757 = .ok (.iconst 0, 1) := by decide +kernel
theorem dL_law_758 : decode cL_law 758 = .ok (.daload, 1) := by decide +kernel
theorem dL_law_759 : decode cL_law 759 = .ok (.aload 4, 2) := by decide +kernel
theorem dL_law_761 : decode cL_law 761 = .ok (.iconst 0, 1) := by decide +kernel
theorem dL_law_762 : decode cL_law 762 = .ok (.daload, 1) := by decide +kernel
theorem dL_law_763 : decode cL_law 763 = .ok (.dcmp .l, 1) := by decide +kernel
theorem dL_law_764 : decode cL_law 764 = .ok (.ifCond .eq 11, 3) := by decide +kernel
theorem dL_law_767 : decode cL_law 767 = .ok (.dload 7, 2) := by decide +kernel
theorem dL_law_769 : decode cL_law 769 = .ok (.dload 7, 2) := by decide +kernel
theorem dL_law_771 : decode cL_law 771 = .ok (.dcmp .l, 1) := by decide +kernel
theorem dL_law_772 : decode cL_law 772 = .ok (.ifCond .ne 5, 3) := by decide +kernel
theorem dL_law_775 : decode cL_law 775 = .ok (.iconst 0, 1) := by decide +kernel
theorem dL_law_776 : decode cL_law 776 = .ok (.ireturn, 1) := by decide +kernel
theorem dL_law_777 : decode cL_law 777 = .ok (.goto 347, 3) := by decide +kernel
theorem dL_law_780 : decode cL_law 780 = .ok (.aload_n 1, 1) := by decide +kernel
theorem dL_law_781 : decode cL_law 781 = .ok (.aload_n 0, 1) := by decide +kernel
theorem dL_law_782 : decode cL_law 782 = .ok (.iload 5, 2) := by decide +kernel
theorem dL_law_784 : decode cL_law 784 = .ok (.iconst 1, 1) := by decide +kernel
theorem dL_law_785 : decode cL_law 785 = .ok (.iadd, 1) := by decide +kernel
theorem dL_law_786 : decode cL_law 786 = .ok (.iaload, 1) := by decide +kernel
theorem dL_law_787 : decode cL_law 787 = .ok (.aload 4, 2) := by decide +kernel
theorem dL_law_789 : decode cL_law 789 = .ok (.invokestatic 103, 3) := by decide +kernel
theorem dL_law_792 : decode cL_law 792 = .ok (.istore 6, 2) := by decide +kernel
theorem dL_law_794 : decode cL_law 794 = .ok (.aload_n 2, 1) := by decide +kernel
theorem dL_law_795 : decode cL_law 795 = .ok (.aload_n 0, 1) := by decide +kernel
theorem dL_law_796 : decode cL_law 796 = .ok (.iload 5, 2) := by decide +kernel
theorem dL_law_798 : decode cL_law 798 = .ok (.iconst 1, 1) := by decide +kernel
theorem dL_law_799 : decode cL_law 799 = .ok (.iadd, 1) := by decide +kernel
theorem dL_law_800 : decode cL_law 800 = .ok (.iaload, 1) := by decide +kernel
theorem dL_law_801 : decode cL_law 801 = .ok (.invokevirtual 105, 3) := by decide +kernel
theorem dL_law_804 : decode cL_law 804 = .ok (.dstore 7, 2) := by decide +kernel
theorem dL_law_806 : decode cL_law 806 = .ok (.aload_n 2, 1) := by decide +kernel
theorem dL_law_807 : decode cL_law 807 = .ok (.invokevirtual 62, 3) := by decide +kernel
theorem dL_law_810 : decode cL_law 810 = .ok (.iload 6, 2) := by decide +kernel
theorem dL_law_812 : decode cL_law 812 = .ok (.if_icmp .eq 5, 3) := by decide +kernel
theorem dL_law_815 : decode cL_law 815 = .ok (.iconst 0, 1) := by decide +kernel
theorem dL_law_816 : decode cL_law 816 = .ok (.ireturn, 1) := by decide +kernel
theorem dL_law_817 : decode cL_law 817 = .ok (.iload 6, 2) := by decide +kernel
theorem dL_law_819 : decode cL_law 819 = .ok (.ifCond .ne 35, 3) := by decide +kernel
theorem dL_law_822 : decode cL_law 822 = .ok (.aload 4, 2) := by decide +kernel
theorem dL_law_824 : decode cL_law 824 = .ok (.iconst 0, 1) := by decide +kernel
theorem dL_law_825 : decode cL_law 825 = .ok (.daload, 1) := by decide +kernel
theorem dL_law_826 : decode cL_law 826 = .ok (.dload 7, 2) := by decide +kernel
theorem dL_law_828 : decode cL_law 828 = .ok (.dcmp .l, 1) := by decide +kernel
theorem dL_law_829 : decode cL_law 829 = .ok (.ifCond .eq 25, 3) := by decide +kernel
theorem dL_law_832 : decode cL_law 832 = .ok (.aload 4, 2) := by decide +kernel
theorem dL_law_834 : decode cL_law 834 = .ok (.iconst 0, 1) := by decide +kernel
theorem dL_law_835 : decode cL_law 835 = .ok (.daload, 1) := by decide +kernel
theorem dL_law_836 : decode cL_law 836 = .ok (.aload 4, 2) := by decide +kernel
theorem dL_law_838 : decode cL_law 838 = .ok (.iconst 0, 1) := by decide +kernel
theorem dL_law_839 : decode cL_law 839 = .ok (.daload, 1) := by decide +kernel
theorem dL_law_840 : decode cL_law 840 = .ok (.dcmp .l, 1) := by decide +kernel
theorem dL_law_841 : decode cL_law 841 = .ok (.ifCond .eq 11, 3) := by decide +kernel
theorem dL_law_844 : decode cL_law 844 = .ok (.dload 7, 2) := by decide +kernel
theorem dL_law_846 : decode cL_law 846 = .ok (.dload 7, 2) := by decide +kernel
theorem dL_law_848 : decode cL_law 848 = .ok (.dcmp .l, 1) := by decide +kernel
theorem dL_law_849 : decode cL_law 849 = .ok (.ifCond .ne 5, 3) := by decide +kernel
theorem dL_law_852 : decode cL_law 852 = .ok (.iconst 0, 1) := by decide +kernel
theorem dL_law_853 : decode cL_law 853 = .ok (.ireturn, 1) := by decide +kernel
theorem dL_law_854 : decode cL_law 854 = .ok (.goto 270, 3) := by decide +kernel
theorem dL_law_857 : decode cL_law 857 = .ok (.aload_n 1, 1) := by decide +kernel
theorem dL_law_858 : decode cL_law 858 = .ok (.aload_n 0, 1) := by decide +kernel
theorem dL_law_859 : decode cL_law 859 = .ok (.iload 5, 2) := by decide +kernel
theorem dL_law_861 : decode cL_law 861 = .ok (.iconst 1, 1) := by decide +kernel
theorem dL_law_862 : decode cL_law 862 = .ok (.iadd, 1) := by decide +kernel
theorem dL_law_863 : decode cL_law 863 = .ok (.iaload, 1) := by decide +kernel
theorem dL_law_864 : decode cL_law 864 = .ok (.aload 4, 2) := by decide +kernel
theorem dL_law_866 : decode cL_law 866 = .ok (.invokestatic 106, 3) := by decide +kernel
theorem dL_law_869 : decode cL_law 869 = .ok (.istore 6, 2) := by decide +kernel
theorem dL_law_871 : decode cL_law 871 = .ok (.aload_n 2, 1) := by decide +kernel
theorem dL_law_872 : decode cL_law 872 = .ok (.aload_n 0, 1) := by decide +kernel
theorem dL_law_873 : decode cL_law 873 = .ok (.iload 5, 2) := by decide +kernel
theorem dL_law_875 : decode cL_law 875 = .ok (.iconst 1, 1) := by decide +kernel
theorem dL_law_876 : decode cL_law 876 = .ok (.iadd, 1) := by decide +kernel
theorem dL_law_877 : decode cL_law 877 = .ok (.iaload, 1) := by decide +kernel
theorem dL_law_878 : decode cL_law 878 = .ok (.invokevirtual 108, 3) := by decide +kernel
theorem dL_law_881 : decode cL_law 881 = .ok (.dstore 7, 2) := by decide +kernel
theorem dL_law_883 : decode cL_law 883 = .ok (.aload_n 2, 1) := by decide +kernel
theorem dL_law_884 : decode cL_law 884 = .ok (.invokevirtual 62, 3) := by decide +kernel
theorem dL_law_887 : decode cL_law 887 = .ok (.iload 6, 2) := by decide +kernel
theorem dL_law_889 : decode cL_law 889 = .ok (.if_icmp .eq 5, 3) := by decide +kernel
theorem dL_law_892 : decode cL_law 892 = .ok (.iconst 0, 1) := by decide +kernel
theorem dL_law_893 : decode cL_law 893 = .ok (.ireturn, 1) := by decide +kernel
theorem dL_law_894 : decode cL_law 894 = .ok (.iload 6, 2) := by decide +kernel
theorem dL_law_896 : decode cL_law 896 = .ok (.ifCond .ne 35, 3) := by decide +kernel
theorem dL_law_899 : decode cL_law 899 = .ok (.aload 4, 2) := by decide +kernel
theorem dL_law_901 : decode cL_law 901 = .ok (.iconst 0, 1) := by decide +kernel
theorem dL_law_902 : decode cL_law 902 = .ok (.daload, 1) := by decide +kernel
theorem dL_law_903 : decode cL_law 903 = .ok (.dload 7, 2) := by decide +kernel
theorem dL_law_905 : decode cL_law 905 = .ok (.dcmp .l, 1) := by decide +kernel
theorem dL_law_906 : decode cL_law 906 = .ok (.ifCond .eq 25, 3) := by decide +kernel
theorem dL_law_909 : decode cL_law 909 = .ok (.aload 4, 2) := by decide +kernel
theorem dL_law_911 : decode cL_law 911 = .ok (.iconst 0, 1) := by decide +kernel
theorem dL_law_912 : decode cL_law 912 = .ok (.daload, 1) := by decide +kernel
theorem dL_law_913 : decode cL_law 913 = .ok (.aload 4, 2) := by decide +kernel
theorem dL_law_915 : decode cL_law 915 = .ok (.iconst 0, 1) := by decide +kernel
theorem dL_law_916 : decode cL_law 916 = .ok (.daload, 1) := by decide +kernel
theorem dL_law_917 : decode cL_law 917 = .ok (.dcmp .l, 1) := by decide +kernel
theorem dL_law_918 : decode cL_law 918 = .ok (.ifCond .eq 11, 3) := by decide +kernel
theorem dL_law_921 : decode cL_law 921 = .ok (.dload 7, 2) := by decide +kernel
theorem dL_law_923 : decode cL_law 923 = .ok (.dload 7, 2) := by decide +kernel
theorem dL_law_925 : decode cL_law 925 = .ok (.dcmp .l, 1) := by decide +kernel
theorem dL_law_926 : decode cL_law 926 = .ok (.ifCond .ne 5, 3) := by decide +kernel
theorem dL_law_929 : decode cL_law 929 = .ok (.iconst 0, 1) := by decide +kernel
theorem dL_law_930 : decode cL_law 930 = .ok (.ireturn, 1) := by decide +kernel
theorem dL_law_931 : decode cL_law 931 = .ok (.goto 193, 3) := by decide +kernel
theorem dL_law_934 : decode cL_law 934 = .ok (.aload_n 1, 1) := by decide +kernel
theorem dL_law_935 : decode cL_law 935 = .ok (.invokevirtual 109, 3) := by decide +kernel
theorem dL_law_938 : decode cL_law 938 = .ok (.aload_n 2, 1) := by decide +kernel
theorem dL_law_939 : decode cL_law 939 = .ok (.invokevirtual 112, 3) := by decide +kernel
theorem dL_law_942 : decode cL_law 942 = .ok (.if_icmp .eq 182, 3) := by decide +kernel
theorem dL_law_945 : decode cL_law 945 = .ok (.iconst 0, 1) := by decide +kernel
theorem dL_law_946 : decode cL_law 946 = .ok (.ireturn, 1) := by decide +kernel
theorem dL_law_947 : decode cL_law 947 = .ok (.aload_n 1, 1) := by decide +kernel
theorem dL_law_948 : decode cL_law 948 = .ok (.invokevirtual 113, 3) := by decide +kernel
theorem dL_law_951 : decode cL_law 951 = .ok (.aload_n 2, 1) := by decide +kernel
theorem dL_law_952 : decode cL_law 952 = .ok (.invokevirtual 116, 3) := by decide +kernel
theorem dL_law_955 : decode cL_law 955 = .ok (.if_icmp .eq 169, 3) := by decide +kernel
theorem dL_law_958 : decode cL_law 958 = .ok (.iconst 0, 1) := by decide +kernel
theorem dL_law_959 : decode cL_law 959 = .ok (.ireturn, 1) := by decide +kernel
theorem dL_law_960 : decode cL_law 960 = .ok (.aload_n 1, 1) := by decide +kernel
theorem dL_law_961 : decode cL_law 961 = .ok (.aload_n 0, 1) := by decide +kernel
theorem dL_law_962 : decode cL_law 962 = .ok (.iload 5, 2) := by decide +kernel
theorem dL_law_964 : decode cL_law 964 = .ok (.iconst 1, 1) := by decide +kernel
theorem dL_law_965 : decode cL_law 965 = .ok (.iadd, 1) := by decide +kernel
theorem dL_law_966 : decode cL_law 966 = .ok (.iaload, 1) := by decide +kernel
theorem dL_law_967 : decode cL_law 967 = .ok (.aload_n 3, 1) := by decide +kernel
theorem dL_law_968 : decode cL_law 968 = .ok (.invokestatic 117, 3) := by decide +kernel
theorem dL_law_971 : decode cL_law 971 = .ok (.istore 6, 2) := by decide +kernel
theorem dL_law_973 : decode cL_law 973 = .ok (.aload_n 2, 1) := by decide +kernel
theorem dL_law_974 : decode cL_law 974 = .ok (.aload_n 0, 1) := by decide +kernel
theorem dL_law_975 : decode cL_law 975 = .ok (.iload 5, 2) := by decide +kernel
theorem dL_law_977 : decode cL_law 977 = .ok (.iconst 1, 1) := by decide +kernel
theorem dL_law_978 : decode cL_law 978 = .ok (.iadd, 1) := by decide +kernel
theorem dL_law_979 : decode cL_law 979 = .ok (.iaload, 1) := by decide +kernel
theorem dL_law_980 : decode cL_law 980 = .ok (.invokevirtual 119, 3) := by decide +kernel
theorem dL_law_983 : decode cL_law 983 = .ok (.istore 7, 2) := by decide +kernel
theorem dL_law_985 : decode cL_law 985 = .ok (.aload_n 2, 1) := by decide +kernel
theorem dL_law_986 : decode cL_law 986 = .ok (.invokevirtual 62, 3) := by decide +kernel
theorem dL_law_989 : decode cL_law 989 = .ok (.iload 6, 2) := by decide +kernel
theorem dL_law_991 : decode cL_law 991 = .ok (.if_icmp .eq 5, 3) := by decide +kernel
theorem dL_law_994 : decode cL_law 994 = .ok (.iconst 0, 1) := by decide +kernel
theorem dL_law_995 : decode cL_law 995 = .ok (.ireturn, 1) := by decide +kernel
theorem dL_law_996 : decode cL_law 996 = .ok (.iload 6, 2) := by decide +kernel
theorem dL_law_998 : decode cL_law 998 = .ok (.ifCond .ne 15, 3) := by decide +kernel
theorem dL_law_1001 : decode cL_law 1001 = .ok (.aload_n 3, 1) := by decide +kernel
theorem dL_law_1002 : decode cL_law 1002 = .ok (.iconst 0, 1) := by decide +kernel
theorem dL_law_1003 : decode cL_law 1003 = .ok (.laload, 1) := by decide +kernel
theorem dL_law_1004 : decode cL_law 1004 = .ok (.iload 7, 2) := by decide +kernel
theorem dL_law_1006 : decode cL_law 1006 = .ok (.i2l, 1) := by decide +kernel
theorem dL_law_1007 : decode cL_law 1007 = .ok (.lcmp, 1) := by decide +kernel
theorem dL_law_1008 : decode cL_law 1008 = .ok (.ifCond .eq 5, 3) := by decide +kernel
theorem dL_law_1011 : decode cL_law 1011 = .ok (.iconst 0, 1) := by decide +kernel
theorem dL_law_1012 : decode cL_law 1012 = .ok (.ireturn, 1) := by decide +kernel
theorem dL_law_1013 : decode cL_law 1013 = .ok (.goto 111, 3) := by decide +kernel
theorem dL_law_1016 : decode cL_law 1016 = .ok (.aload_n 1, 1) := by decide +kernel
theorem dL_law_1017 : decode cL_law 1017 = .ok (.invokevirtual 120, 3) := by decide +kernel
theorem dL_law_1020 : decode cL_law 1020 = .ok (.aload_n 2, 1) := by decide +kernel
theorem dL_law_1021 : decode cL_law 1021 = .ok (.invokevirtual 123, 3) := by decide +kernel
theorem dL_law_1024 : decode cL_law 1024 = .ok (.if_icmp .eq 100, 3) := by decide +kernel
theorem dL_law_1027 : decode cL_law 1027 = .ok (.iconst 0, 1) := by decide +kernel
theorem dL_law_1028 : decode cL_law 1028 = .ok (.ireturn, 1) := by decide +kernel
theorem dL_law_1029 : decode cL_law 1029 = .ok (.aload_n 1, 1) := by decide +kernel
theorem dL_law_1030 : decode cL_law 1030 = .ok (.invokevirtual 124, 3) := by decide +kernel
theorem dL_law_1033 : decode cL_law 1033 = .ok (.dstore 6, 2) := by decide +kernel
theorem dL_law_1035 : decode cL_law 1035 = .ok (.aload_n 2, 1) := by decide +kernel
theorem dL_law_1036 : decode cL_law 1036 = .ok (.invokevirtual 127, 3) := by decide +kernel
theorem dL_law_1039 : decode cL_law 1039 = .ok (.dstore 8, 2) := by decide +kernel
theorem dL_law_1041 : decode cL_law 1041 = .ok (.dload 6, 2) := by decide +kernel
theorem dL_law_1043 : decode cL_law 1043 = .ok (.dload 8, 2) := by decide +kernel
theorem dL_law_1045 : decode cL_law 1045 = .ok (.dcmp .l, 1) := by decide +kernel
theorem dL_law_1046 : decode cL_law 1046 = .ok (.ifCond .eq 21, 3) := by decide +kernel
theorem dL_law_1049 : decode cL_law 1049 = .ok (.dload 6, 2) := by decide +kernel
theorem dL_law_1051 : decode cL_law 1051 = .ok (.dload 6, 2) := by decide +kernel
theorem dL_law_1053 : decode cL_law 1053 = .ok (.dcmp .l, 1) := by decide +kernel
theorem dL_law_1054 : decode cL_law 1054 = .ok (.ifCond .eq 11, 3) := by decide +kernel
theorem dL_law_1057 : decode cL_law 1057 = .ok (.dload 8, 2) := by decide +kernel
theorem dL_law_1059 : decode cL_law 1059 = .ok (.dload 8, 2) := by decide +kernel
theorem dL_law_1061 : decode cL_law 1061 = .ok (.dcmp .l, 1) := by decide +kernel
theorem dL_law_1062 : decode cL_law 1062 = .ok (.ifCond .ne 5, 3) := by decide +kernel
theorem dL_law_1065 : decode cL_law 1065 = .ok (.iconst 0, 1) := by decide +kernel
theorem dL_law_1066 : decode cL_law 1066 = .ok (.ireturn, 1) := by decide +kernel
theorem dL_law_1067 : decode cL_law 1067 = .ok (.goto 57, 3) := by decide +kernel
theorem dL_law_1070 : decode cL_law 1070 = .ok (.aload_n 1, 1) := by decide +kernel
theorem dL_law_1071 : decode cL_law 1071 = .ok (.invokevirtual 128, 3) := by decide +kernel
theorem dL_law_1074 : decode cL_law 1074 = .ok (.dstore 6, 2) := by decide +kernel
theorem dL_law_1076 : decode cL_law 1076 = .ok (.aload_n 2, 1) := by decide +kernel
theorem dL_law_1077 : decode cL_law 1077 = .ok (.invokevirtual 131, 3) := by decide +kernel
theorem dL_law_1080 : decode cL_law 1080 = .ok (.dstore 8, 2) := by decide +kernel
theorem dL_law_1082 : decode cL_law 1082 = .ok (.dload 6, 2) := by decide +kernel
theorem dL_law_1084 : decode cL_law 1084 = .ok (.dload 8, 2) := by decide +kernel
theorem dL_law_1086 : decode cL_law 1086 = .ok (.dcmp .l, 1) := by decide +kernel
theorem dL_law_1087 : decode cL_law 1087 = .ok (.ifCond .eq 21, 3) := by decide +kernel
theorem dL_law_1090 : decode cL_law 1090 = .ok (.dload 6, 2) := by decide +kernel
theorem dL_law_1092 : decode cL_law 1092 = .ok (.dload 6, 2) := by decide +kernel
theorem dL_law_1094 : decode cL_law 1094 = .ok (.dcmp .l, 1) := by decide +kernel
theorem dL_law_1095 : decode cL_law 1095 = .ok (.ifCond .eq 11, 3) := by decide +kernel
theorem dL_law_1098 : decode cL_law 1098 = .ok (.dload 8, 2) := by decide +kernel
theorem dL_law_1100 : decode cL_law 1100 = .ok (.dload 8, 2) := by decide +kernel
theorem dL_law_1102 : decode cL_law 1102 = .ok (.dcmp .l, 1) := by decide +kernel
theorem dL_law_1103 : decode cL_law 1103 = .ok (.ifCond .ne 5, 3) := by decide +kernel
theorem dL_law_1106 : decode cL_law 1106 = .ok (.iconst 0, 1) := by decide +kernel
theorem dL_law_1107 : decode cL_law 1107 = .ok (.ireturn, 1) := by decide +kernel
theorem dL_law_1108 : decode cL_law 1108 = .ok (.goto 16, 3) := by decide +kernel
theorem dL_law_1111 : decode cL_law 1111 = .ok (.aload_n 1, 1) := by decide +kernel
theorem dL_law_1112 : decode cL_law 1112 = .ok (.invokevirtual 132, 3) := by decide +kernel
theorem dL_law_1115 : decode cL_law 1115 = .ok (.aload_n 2, 1) := by decide +kernel
theorem dL_law_1116 : decode cL_law 1116 = .ok (.invokevirtual 135, 3) := by decide +kernel
theorem dL_law_1119 : decode cL_law 1119 = .ok (.if_icmp .eq 5, 3) := by decide +kernel
theorem dL_law_1122 : decode cL_law 1122 = .ok (.iconst 0, 1) := by decide +kernel
theorem dL_law_1123 : decode cL_law 1123 = .ok (.ireturn, 1) := by decide +kernel
theorem dL_law_1124 : decode cL_law 1124 = .ok (.iinc 5 3, 3) := by decide +kernel
theorem dL_law_1127 : decode cL_law 1127 = .ok (.goto (-1099), 3) := by decide +kernel
theorem dL_law_1130 : decode cL_law 1130 = .ok (.iconst 1, 1) := by decide +kernel
theorem dL_law_1131 : decode cL_law 1131 = .ok (.ireturn, 1) := by decide +kernel
abbrev vwCl : List vw_C := [(RX0, TX0, 6), (RX1, TX1, 5), (RX2, TX2, 4), (RX3, TX3, 13)]
end
section
/-! FLOATS: nonnegative doubles, their units, bounds of results (no NaN in this system) -/
def zv (x : UInt64) : Int := FP.Core.zval FP.Core.b64 (FP.Core.val64 x)
/-- not negative by its sign bit, no NaN, perhaps infinite -/
def NN (x : UInt64) : Prop := x.toNat ≤ 9218868437227405312
/-- .. and finite -/
def NF (x : UInt64) : Prop := x.toNat < 9218868437227405312
/-- in units of the least double -/
def ud (x : UInt64) : Nat := FP.Core.unitsOf FP.Core.b64 x.toNat
theorem NF.nn {x : UInt64} (h : NF x) : NN x := Nat.le_of_lt h
theorem NN.lt63 {x : UInt64} (h : NN x) : x.toNat < 2 ^ 63 := by unfold NN at h; omega
theorem NN.ne {x : UInt64} (h : NN x) : FP.Core.val64 x ≠ .nan := (FP.Core.ne_nan x).mpr (by have h2 := h.lt63; unfold NN at h; omega)
theorem NF.fin {x : UInt64} (h : NF x) : FP.Core.DFin x := (FP.Core.fin_bits x).mpr (by unfold NF at h; omega)
theorem n64_of {r : UInt64} (h : FP.Core.val64 r ≠ .nan) : vf_n64 r := by
  unfold vf_n64
  rw [UInt64.le_iff_toNat_le, FP.Core.mask_toNat]
  have h1 := (FP.Core.ne_nan r).mp h
  have h2 : (0x7ff0000000000000 : UInt64).toNat = 9218868437227405312 := by decide +kernel
  omega
theorem NN.n64 {r : UInt64} (h : NN r) : vf_n64 r := n64_of h.ne
theorem NN.sgn {x : UInt64} (h : NN x) : FP.Core.sgn (FP.Core.val64 x) = false := by
  rw [FP.Core.sgn_bits h.ne]
  exact decide_eq_false (by have := h.lt63; omega)
theorem NN.uz {x : UInt64} (h : NN x) : zv x = (ud x : Int) := by
  unfold zv FP.Core.zval ud
  rw [h.sgn, FP.Core.zmag_bits h.ne, Nat.mod_eq_of_lt h.lt63]
  rfl
theorem nn_of {x : UInt64} (h : FP.Core.val64 x ≠ .nan) (hs : FP.Core.sgn (FP.Core.val64 x) = false) : NN x := by
  have h1 := (FP.Core.ne_nan x).mp h
  rw [FP.Core.sgn_bits h] at hs
  have h2 : ¬ 2 ^ 63 ≤ x.toNat := of_decide_eq_false hs
  unfold NN
  omega
theorem nf_of {x : UInt64} (h : FP.Core.DFin x) (hs : FP.Core.sgn (FP.Core.val64 x) = false) : NF x := by
  have h1 := nn_of h.ne_nan hs
  have h2 := (FP.Core.fin_bits x).mp h
  have h3 := h1.lt63
  unfold NF
  omega
theorem ud_lt {x y : UInt64} : ud x < ud y ↔ x.toNat < y.toNat := FP.Core.unitsOf_lt_iff
theorem ud_le {x y : UInt64} : ud x ≤ ud y ↔ x.toNat ≤ y.toNat := FP.Core.unitsOf_le_iff
theorem sgn_sum {x y : FP.Core.Datum} (hx : FP.Core.sgn x = false) (hy : FP.Core.sgn y = false) : FP.Core.sgn (FP.Core.round FP.Core.b64 (FP.Core.exactSum x y)) = false := by
  cases x with
  | nan => rfl
  | inf s =>
    cases y with
    | nan => rfl
    | inf t =>
      have h1 : s = false := hx
      have h2 : t = false := hy
      subst h1; subst h2; rfl
    | fin t d r => exact hx
  | fin s c q =>
    cases y with
    | nan => rfl
    | inf t => exact hy
    | fin t d r =>
      have h1 : s = false := hx
      have h2 : t = false := hy
      subst h1; subst h2
      show FP.Core.sgn (FP.Core.roundRatio FP.Core.b64 (FP.Core.sumSign false false _) _ 1 _) = false
      rw [FP.Core.sgn_roundRatio]
      unfold FP.Core.sumSign
      split
      · rfl
      · exact decide_eq_false (by
          unfold FP.Core.sumUnits FP.Core.signed
          simp only [Bool.false_eq_true, if_false]
          omega)
theorem sgn_product {x y : FP.Core.Datum} (hx : FP.Core.sgn x = false) (hy : FP.Core.sgn y = false) : FP.Core.sgn (FP.Core.round FP.Core.b64 (FP.Core.exactProduct x y)) = false := by
  cases x with
  | nan => rfl
  | inf s =>
    have h1 : s = false := hx
    subst h1
    cases y with
    | nan => rfl
    | inf t =>
      have h2 : t = false := hy
      subst h2; rfl
    | fin t d r =>
      have h2 : t = false := hy
      subst h2
      unfold FP.Core.exactProduct
      simp only
      split <;> rfl
  | fin s c q =>
    have h1 : s = false := hx
    subst h1
    cases y with
    | nan => rfl
    | inf t =>
      have h2 : t = false := hy
      subst h2
      unfold FP.Core.exactProduct
      simp only
      split <;> rfl
    | fin t d r =>
      have h2 : t = false := hy
      subst h2
      show FP.Core.sgn (FP.Core.roundRatio FP.Core.b64 _ _ 1 _) = false
      rw [FP.Core.sgn_roundRatio]
      rfl
theorem sgn_quotient {x y : FP.Core.Datum} (hx : FP.Core.sgn x = false) (hy : FP.Core.sgn y = false) : FP.Core.sgn (FP.Core.quotient FP.Core.b64 x y) = false := by
  cases x with
  | nan => rfl
  | inf s =>
    have h1 : s = false := hx
    subst h1
    cases y with
    | nan => rfl
    | inf t => rfl
    | fin t d r =>
      have h2 : t = false := hy
      subst h2; rfl
  | fin s c q =>
    have h1 : s = false := hx
    subst h1
    cases y with
    | nan => rfl
    | inf t =>
      have h2 : t = false := hy
      subst h2; rfl
    | fin t d r =>
      have h2 : t = false := hy
      subst h2
      unfold FP.Core.quotient
      simp only
      split
      · split <;> rfl
      · rw [FP.Core.sgn_roundRatio]
        rfl
theorem inf_sgn {x : UInt64} (h : NN x) {s : Bool} (hs : FP.Core.val64 x = .inf s) : s = false := by
  have := h.sgn
  rw [hs] at this
  exact this
theorem nn_dadd {a b : UInt64} (ha : NN a) (hb : NN b) : NN (FP.dadd a b) := by
  refine nn_of ?_ ?_
  · rw [← FP.Core.notNaN_iff]
    refine FP.Core.not_true (FP.Core.dadd_nan_iff a b) ?_
    rintro (h | h | ⟨s, h1, h2⟩)
    · exact ha.ne h
    · exact hb.ne h
    · have e1 := inf_sgn ha h1
      have e2 := inf_sgn hb h2
      subst e1
      cases e2
  · show FP.Core.sgn (FP.Core.val64 (FP.Core.dadd a b)) = false
    rw [FP.Core.val64_dadd]
    exact sgn_sum ha.sgn hb.sgn
theorem NF.ninf {x : UInt64} (h : NF x) (s : Bool) : FP.Core.val64 x ≠ .inf s := h.fin.ne_inf s
theorem nn_dmul {a b : UInt64} (ha : NF a) (hb : NN b) (h0 : a.toNat = 0 → NF b) : NN (FP.dmul a b) := by
  refine nn_of ?_ ?_
  · rw [← FP.Core.notNaN_iff]
    refine FP.Core.not_true (FP.Core.dmul_nan_iff a b) ?_
    rintro (h | h | ⟨s, h1, h2⟩ | ⟨s, h1, h2⟩)
    · exact ha.nn.ne h
    · exact hb.ne h
    · exact ha.ninf s h1
    · have h3 := (FP.Core.zero_bits2 a).mp h1
      have h4 := ha.nn.lt63
      exact (h0 (by omega)).ninf s h2
  · show FP.Core.sgn (FP.Core.val64 (FP.Core.dmul a b)) = false
    rw [FP.Core.val64_dmul]
    exact sgn_product ha.nn.sgn hb.sgn
theorem nn_dmulF {a b : UInt64} (ha : NF a) (hb : NF b) : NN (FP.dmul a b) := nn_dmul ha hb.nn (fun _ => hb)
theorem nn_ddiv {a b : UInt64} (ha : NN a) (hb : NF b) (h0 : 0 < b.toNat) : NN (FP.ddiv a b) := by
  refine nn_of ?_ ?_
  · rw [← FP.Core.notNaN_iff]
    refine FP.Core.not_true (FP.Core.ddiv_nan_iff a b) ?_
    rintro (h | h | ⟨s, t, h1, h2⟩ | ⟨h1, h2⟩)
    · exact ha.ne h
    · exact hb.nn.ne h
    · exact hb.ninf t h2
    · have h3 := (FP.Core.zero_bits2 b).mp h2
      have h4 := hb.nn.lt63
      omega
  · show FP.Core.sgn (FP.Core.val64 (FP.Core.ddiv a b)) = false
    rw [FP.Core.val64_ddiv]
    exact sgn_quotient ha.sgn hb.nn.sgn
/-! sums and differences of finite doubles, in units -/
theorem zadd_le {a b v : UInt64} (ha : FP.Core.DFin a) (hb : FP.Core.DFin b) (hv : FP.Core.val64 v ≠ .nan) (h : zv a + zv b ≤ zv v) : zv (FP.dadd a b) ≤ zv v := by
  show FP.Core.zval FP.Core.b64 (FP.Core.val64 (FP.Core.dadd a b)) ≤ _
  rw [FP.Core.val64_dadd]
  exact FP.Core.sum_le FP.Core.good_b64 ha hb (FP.Core.val64_fits a) (FP.Core.val64_fits b) (FP.Core.val64_fits v) hv h
theorem zadd_ge {a b v : UInt64} (ha : FP.Core.DFin a) (hb : FP.Core.DFin b) (hv : FP.Core.val64 v ≠ .nan) (h : zv v ≤ zv a + zv b) : zv v ≤ zv (FP.dadd a b) := by
  show _ ≤ FP.Core.zval FP.Core.b64 (FP.Core.val64 (FP.Core.dadd a b))
  rw [FP.Core.val64_dadd]
  exact FP.Core.sum_ge FP.Core.good_b64 ha hb (FP.Core.val64_fits a) (FP.Core.val64_fits b) (FP.Core.val64_fits v) hv h
theorem neg_fin {b : UInt64} (hb : FP.Core.DFin b) : ∃ s c q, FP.Core.negate (FP.Core.val64 b) = .fin s c q := by
  obtain ⟨s, c, q, h⟩ := hb
  exact ⟨!s, c, q, by rw [h]; rfl⟩
theorem zsub_le {a b v : UInt64} (ha : FP.Core.DFin a) (hb : FP.Core.DFin b) (hv : FP.Core.val64 v ≠ .nan) (h : zv a - zv b ≤ zv v) : zv (FP.dsub a b) ≤ zv v := by
  show FP.Core.zval FP.Core.b64 (FP.Core.val64 (FP.Core.dsub a b)) ≤ _
  rw [FP.Core.val64_dsub]
  refine FP.Core.sum_le FP.Core.good_b64 ha (neg_fin hb) (FP.Core.val64_fits a) (FP.Core.negate_fits (FP.Core.val64_fits b)) (FP.Core.val64_fits v) hv ?_
  rw [FP.Core.zval_negate]
  unfold zv at h
  omega
theorem zsub_ge {a b v : UInt64} (ha : FP.Core.DFin a) (hb : FP.Core.DFin b) (hv : FP.Core.val64 v ≠ .nan) (h : zv v ≤ zv a - zv b) : zv v ≤ zv (FP.dsub a b) := by
  show _ ≤ FP.Core.zval FP.Core.b64 (FP.Core.val64 (FP.Core.dsub a b))
  rw [FP.Core.val64_dsub]
  refine FP.Core.sum_ge FP.Core.good_b64 ha (neg_fin hb) (FP.Core.val64_fits a) (FP.Core.negate_fits (FP.Core.val64_fits b)) (FP.Core.val64_fits v) hv ?_
  rw [FP.Core.zval_negate]
  unfold zv at h
  omega
theorem dsub_ne {a b : UInt64} (ha : FP.Core.DFin a) (hb : FP.Core.DFin b) : FP.Core.val64 (FP.dsub a b) ≠ .nan := (FP.Core.notNaN_iff _).mp (FP.Core.dsub_out ha.notNaN hb)
theorem dadd_ne {a b : UInt64} (ha : FP.Core.DFin a) (hb : FP.Core.DFin b) : FP.Core.val64 (FP.dadd a b) ≠ .nan := (FP.Core.notNaN_iff _).mp (FP.Core.dadd_out ha.notNaN hb)
theorem dmul_ne {a b : UInt64} (ha : FP.Core.DFin a) (hb : FP.Core.DFin b) : FP.Core.val64 (FP.dmul a b) ≠ .nan := (FP.Core.notNaN_iff _).mp (FP.Core.dmul_out ha hb)
theorem ud_1 : ud 1 = 1 := by decide +kernel
theorem zv_1 : zv 1 = 1 := by decide +kernel
theorem zv_0 : zv 0 = 0 := FP.Core.zval64_zero
theorem ne_0 : FP.Core.val64 0 ≠ .nan := NN.ne (x := 0) (by unfold NN; decide +kernel)
theorem ne_1 : FP.Core.val64 1 ≠ .nan := NN.ne (x := 1) (by unfold NN; decide +kernel)
/-- a value above 0 has no sign bit -/
theorem nn_pos {x : UInt64} (h : FP.Core.val64 x ≠ .nan) (hz : 0 < zv x) : NN x := by
  refine nn_of h ?_
  unfold zv FP.Core.zval at hz
  generalize FP.Core.sgn (FP.Core.val64 x) = s at *
  cases s
  · rfl
  · simp only [FP.Core.signed, if_true] at hz
    omega
theorem NN.fin_of_zv {x y : UInt64} (hx : NN x) (hy : NF y) (h : zv x ≤ zv y) : NF x := by
  rw [hx.uz, hy.nn.uz] at h
  have h1 : ud x ≤ ud y := by omega
  rw [ud_le] at h1
  unfold NF at hy ⊢
  omega
theorem dadd_le {a b v : UInt64} (ha : NF a) (hb : NF b) (hv : NN v) (h : ud a + ud b ≤ ud v) : (FP.dadd a b).toNat ≤ v.toNat := by
  have h1 := zadd_le ha.fin hb.fin hv.ne (by rw [ha.nn.uz, hb.nn.uz, hv.uz]; omega)
  rw [(nn_dadd ha.nn hb.nn).uz, hv.uz] at h1
  exact ud_le.mp (by omega)
theorem dadd_ge {a b v : UInt64} (ha : NF a) (hb : NF b) (hv : NN v) (h : ud v ≤ ud a + ud b) : v.toNat ≤ (FP.dadd a b).toNat := by
  have h1 := zadd_ge ha.fin hb.fin hv.ne (by rw [ha.nn.uz, hb.nn.uz, hv.uz]; omega)
  rw [(nn_dadd ha.nn hb.nn).uz, hv.uz] at h1
  exact ud_le.mp (by omega)
theorem ud_pos {x : UInt64} : 0 < ud x ↔ 0 < x.toNat := by
  have h : ud 0 = 0 := by decide +kernel
  have h2 : (0 : UInt64).toNat = 0 := by decide
  have := @ud_lt 0 x
  rw [h, h2] at this
  exact this
/-- a difference: b below a -/
theorem dsub_pos {a b : UInt64} (ha : NF a) (hb : NF b) (h : b.toNat < a.toNat) : NF (FP.dsub a b) ∧ 0 < (FP.dsub a b).toNat ∧ (FP.dsub a b).toNat ≤ a.toNat := by
  have h0 := ud_lt.mpr h
  have h1 := zsub_ge ha.fin hb.fin ne_1 (by rw [zv_1, ha.nn.uz, hb.nn.uz]; omega)
  have h2 := zsub_le ha.fin hb.fin ha.nn.ne (by rw [ha.nn.uz, hb.nn.uz]; omega)
  rw [zv_1] at h1
  have h3 := nn_pos (dsub_ne ha.fin hb.fin) (by omega)
  have h4 := NN.fin_of_zv h3 ha h2
  rw [h3.uz] at h1 h2
  rw [ha.nn.uz] at h2
  exact ⟨h4, ud_pos.mp (by omega), ud_le.mp (by omega)⟩
theorem dsub_nonpos {a b : UInt64} (ha : NF a) (hb : NF b) (h : a.toNat ≤ b.toNat) : zv (FP.dsub a b) ≤ 0 := by
  have h0 := ud_le.mpr h
  have h1 := zsub_le ha.fin hb.fin ne_0 (by rw [zv_0, ha.nn.uz, hb.nn.uz]; omega)
  rw [zv_0] at h1
  exact h1
theorem dadd_geR {a b : UInt64} (ha : NF a) (hb : NF b) : b.toNat ≤ (FP.dadd a b).toNat := dadd_ge ha hb hb.nn (by omega)
theorem dadd_geL {a b : UInt64} (ha : NF a) (hb : NF b) : a.toNat ≤ (FP.dadd a b).toNat := dadd_ge ha hb ha.nn (by omega)
/-! comparisons -/
theorem cmp_zv {a b : UInt64} (ha : FP.Core.val64 a ≠ .nan) (hb : FP.Core.val64 b ≠ .nan) : FP.dcmp a b = some (compare (zv a) (zv b)) := FP.Core.dcmp_zval ha hb
theorem cmp_nn {a b : UInt64} (ha : NN a) (hb : NN b) : (FP.dcmp a b = some .lt ↔ a.toNat < b.toNat) ∧ (FP.dcmp a b = some .eq ↔ a.toNat = b.toNat) ∧ (FP.dcmp a b = some .gt ↔ b.toNat < a.toNat) := FP.Core.mono_bits ha.ne hb.ne ha.lt63 hb.lt63
/-! products and quotients, in units -/
theorem nf_data {a : UInt64} (h : NF a) : ∃ s c q, FP.Core.decode FP.Core.b64 a.toNat = .fin s c q ∧ FP.Core.fits FP.Core.b64 (.fin s c q) ∧ FP.Core.zmag FP.Core.b64 (.fin s c q) = ud a := by
  obtain ⟨s, c, q, h1, h2, h3⟩ := FP.Core.fin_of_mag FP.Core.good_b64 (n := a.toNat) (by rw [FP.Core.mag_toNat64, FP.Core.infBits_b64]; unfold NF at h; omega)
  refine ⟨s, c, q, h1, h2, ?_⟩
  rw [h3, FP.Core.mag_toNat64, Nat.mod_eq_of_lt h.nn.lt63]
  rfl
theorem dfin_data {a : UInt64} (h : FP.Core.DFin a) : ∃ s c q, FP.Core.decode FP.Core.b64 a.toNat = .fin s c q ∧ FP.Core.fits FP.Core.b64 (.fin s c q) ∧ FP.Core.zmag FP.Core.b64 (.fin s c q) = (zv a).natAbs := by
  obtain ⟨s, c, q, h1⟩ := h
  refine ⟨s, c, q, h1, h1 ▸ FP.Core.val64_fits a, ?_⟩
  unfold zv FP.Core.zval
  rw [h1, FP.Core.natAbs_signed]
theorem dmul_le {a b v : UInt64} (ha : NF a) (hb : NF b) (hv : NN v) (h : ud a * ud b ≤ ud v * 2 ^ 1074) : (FP.dmul a b).toNat ≤ v.toNat := by
  obtain ⟨s, c, q, x1, x2, x3⟩ := nf_data ha
  obtain ⟨t, d, r, y1, y2, y3⟩ := nf_data hb
  obtain ⟨p1, p2, p3⟩ := FP.Core.product_units x2 y2
  have hd : FP.Core.decode FP.Core.b64 (FP.Core.dmul a b).toNat = FP.Core.roundRatio FP.Core.b64 (s != t) (c * d) 1 (q + r) := by
    show FP.Core.val64 (FP.Core.dmul a b) = _
    rw [FP.Core.val64_dmul, show FP.Core.val64 a = _ from x1, show FP.Core.val64 b = _ from y1, p1]
    rfl
  have h1 := FP.Core.mag_le FP.Core.good_b64 hd (by decide) (e0 := 2 * FP.Core.b64.qmin) (by rw [FP.Core.qmin_b64]; decide) p2 (m := v.toNat) (by
    rw [p3, x3, y3, Nat.mul_one, show (FP.Core.b64.qmin - 2 * FP.Core.b64.qmin).toNat = 1074 by rw [FP.Core.qmin_b64]; decide]
    exact h)
  rw [FP.Core.mag_toNat64, Nat.mod_eq_of_lt (nn_dmulF ha hb).lt63] at h1
  exact h1
theorem ddiv_mle {a b v : UInt64} (ha : FP.Core.DFin a) (hb : NF b) (h0 : 0 < b.toNat) (h : (zv a).natAbs * 2 ^ 1074 ≤ ud v * ud b) : (FP.ddiv a b).toNat % 2 ^ 63 ≤ v.toNat := by
  obtain ⟨s, c, q, x1, x2, x3⟩ := dfin_data ha
  obtain ⟨t, d, r, y1, y2, y3⟩ := nf_data hb
  have hq := FP.Core.qmin_neg FP.Core.good_b64
  have hb0 := ud_pos.mpr h0
  have hd0 : d ≠ 0 := by
    rintro rfl
    have h1 : FP.Core.zmag FP.Core.b64 (.fin t 0 r) = 0 := Nat.zero_mul _
    omega
  have hd : FP.Core.decode FP.Core.b64 (FP.Core.ddiv a b).toNat = FP.Core.roundRatio FP.Core.b64 (s != t) c d (q - r) := by
    show FP.Core.val64 (FP.Core.ddiv a b) = _
    rw [FP.Core.val64_ddiv, show FP.Core.val64 a = _ from x1, show FP.Core.val64 b = _ from y1]
    simp only [FP.Core.quotient, if_neg hd0]
  have hx1 := x2.2.1
  have hy1 := y2.2.1
  have h1 := FP.Core.mag_le FP.Core.good_b64 hd (by omega) (e0 := 2 * FP.Core.b64.qmin - r) (by omega) (by omega) (m := v.toNat) (by
    have e1 : FP.Core.inUnits c (q - r) (2 * FP.Core.b64.qmin - r) = FP.Core.zmag FP.Core.b64 (.fin s c q) * 2 ^ (-FP.Core.b64.qmin).toNat := by
      show c * _ = c * _ * _
      rw [Nat.mul_assoc, ← Nat.pow_add]; congr 2; omega
    have e2 : 2 ^ (FP.Core.b64.qmin - (2 * FP.Core.b64.qmin - r)).toNat * d = FP.Core.zmag FP.Core.b64 (.fin t d r) := by
      show _ = d * _
      rw [Nat.mul_comm]; congr 2; omega
    rw [e1, Nat.mul_assoc, e2, x3, y3, show (-FP.Core.b64.qmin).toNat = 1074 by rw [FP.Core.qmin_b64]; decide]
    exact h)
  rw [FP.Core.mag_toNat64] at h1
  exact h1
theorem ddiv_le {a b v : UInt64} (ha : NF a) (hb : NF b) (h0 : 0 < b.toNat) (h : ud a * 2 ^ 1074 ≤ ud v * ud b) : (FP.ddiv a b).toNat ≤ v.toNat := by
  have h1 := ddiv_mle (v := v) ha.fin hb h0 (by rw [ha.nn.uz]; exact h)
  rw [Nat.mod_eq_of_lt (nn_ddiv ha.nn hb h0).lt63] at h1
  exact h1
/-! a double by its digits -/
theorem mk_units (c k : Nat) (hc : c < 2 ^ 53) (hk : k ≤ 2045) : ∃ V : UInt64, NF V ∧ ud V = c * 2 ^ k := by
  have hq : FP.Core.b64.qmin = -1074 := FP.Core.qmin_b64
  have hm : FP.Core.b64.qmax = 971 := by decide
  obtain ⟨c', q', h1, h2⟩ := FP.Core.round_exact FP.Core.good_b64 false (c := c) (q := FP.Core.b64.qmin + (k : Int)) (by rw [show FP.Core.b64.p = 53 from rfl]; exact hc) (by omega) (by omega)
  have h3 : FP.Core.fits FP.Core.b64 (.fin false c' q') := h1 ▸ FP.Core.round_fits FP.Core.good_b64 _
  have h4 := FP.Core.val64_of64 h3
  have h5 : NF (FP.Core.of64 (.fin false c' q')) := nf_of ⟨_, _, _, h4⟩ (by rw [h4]; rfl)
  refine ⟨_, h5, ?_⟩
  have h6 := h5.nn.uz
  unfold zv FP.Core.zval at h6
  rw [h4] at h6
  have h7 : FP.Core.inUnits c' q' FP.Core.b64.qmin = ud (FP.Core.of64 (.fin false c' q')) := by
    have : ((FP.Core.inUnits c' q' FP.Core.b64.qmin : Nat) : Int) = (ud (FP.Core.of64 (.fin false c' q')) : Int) := h6
    omega
  rw [← h7, h2]
  unfold FP.Core.inUnits
  rw [show (FP.Core.b64.qmin + (k : Int) - FP.Core.b64.qmin).toNat = k by omega]
theorem ud_form {a : UInt64} (h : NF a) : ∃ c k : Nat, c < 2 ^ 53 ∧ k ≤ 2045 ∧ ud a = c * 2 ^ k ∧ (k = 0 ∨ 2 ^ 52 ≤ c) := by
  obtain ⟨s, c, q, x1, x2, x3⟩ := nf_data h
  have hq : FP.Core.b64.qmin = -1074 := FP.Core.qmin_b64
  have hm : FP.Core.b64.qmax = 971 := by decide
  obtain ⟨h1, h2, h3, h4⟩ := x2
  refine ⟨c, (q - FP.Core.b64.qmin).toNat, h1, by omega, x3.symm, ?_⟩
  rcases h4 with h4 | h4
  · exact Or.inl (by omega)
  · exact Or.inr h4
end
section
/-! MY OWN ROWS: contracts over a world, calls that leave the rest, comparisons of doubles, the row of barrels as a world -/
/-- a method's start: these arguments, this world -/
def Pm (D : va_G) (tys : List (ClassId × FieldType)) (av : List Value) (ws : va_W) (sz : Nat) : Array Value → State → Prop := va_Pc av (fun U => U.heap.size = sz ∧ va_P D vwCl ws U.heap ∧ va_K D vwCl tys U ∧ va_D (fun _ => True) ws)
/-- the start of one that only reads -/
def Pr (D : va_G) (tys : List (ClassId × FieldType)) (av : List Value) (ws : va_W) : Array Value → State → Prop := va_Pc av (fun U => va_P D vwCl ws U.heap ∧ va_K D vwCl tys U)
abbrev Bm (D : va_G) (tys : List (ClassId × FieldType)) (A : Nat → Prop) (ws : va_W) : Unit → State → Prop := fun _ t => va_P D vwCl ws t.heap ∧ va_K D vwCl tys t ∧ va_D A ws
theorem Pm_blind {D : va_G} {tys : List (ClassId × FieldType)} {av : List Value} {ws : va_W} {sz : Nat} : FrameBlind (Pm D tys av ws sz) := fun a U g mk q => by
  obtain ⟨q0, q1, qP, qK, qD⟩ := q
  exact ⟨q0, q1, qP, va_K.moved (u := U) (U := U.calling g mk a) (Vm.Alike.refl U.vm) qK, qD⟩
theorem Pr_blind {D : va_G} {tys : List (ClassId × FieldType)} {av : List Value} {ws : va_W} : FrameBlind (Pr D tys av ws) := fun a U g mk q => by
  obtain ⟨q0, qP, qK⟩ := q
  exact ⟨q0, qP, va_K.moved (u := U) (U := U.calling g mk a) (Vm.Alike.refl U.vm) qK⟩
section PRE
variable {s : State} {H : Heap} {D : va_G} {tys : List (ClassId × FieldType)} {ws : va_W} {A : Nat → Prop} {As : List Value} {b : Addr}
theorem pmS (hP : va_P D vwCl ws H) (hK : va_K D vwCl tys s) (hD : va_D A ws) : PreS s H (Pm D tys As ws H.size) As :=
  ⟨Pm_blind, fun U hU hW => ⟨rfl, by rw [hU], by rw [hU]; exact hP, va_K.moved hW.alike hK, hD.weaken (fun _ _ _ _ => trivial)⟩⟩
theorem pmV (ci k : Nat) (C : String) (T : u_T) (N : Nat) {fs : List Value} (hc : vwCl[ci]? = some (C, T, N)) (he : ws[k]? = some (b, .inr (ci, fs))) (hP : va_P D vwCl ws H) (hK : va_K D vwCl tys s) (hD : va_D A ws) : PreV s H C b (Pm D tys (.ref b :: As) ws H.size) As :=
  ⟨Pm_blind, va_recv hK hP hc he, (pmS hP hK hD).2⟩
theorem prS (hP : va_P D vwCl ws H) (hK : va_K D vwCl tys s) : PreS s H (Pr D tys As ws) As :=
  ⟨Pr_blind, fun U hU hW => ⟨rfl, by rw [hU]; exact hP, va_K.moved hW.alike hK⟩⟩
theorem prV (ci k : Nat) (C : String) (T : u_T) (N : Nat) {fs : List Value} (hc : vwCl[ci]? = some (C, T, N)) (he : ws[k]? = some (b, .inr (ci, fs))) (hP : va_P D vwCl ws H) (hK : va_K D vwCl tys s) : PreV s H C b (Pr D tys (.ref b :: As) ws) As :=
  ⟨Pr_blind, va_recv hK hP hc he, (prS hP hK).2⟩
end PRE
/-! parts of a world, and what comes back -/
section JOIN
variable {A0 : Nat → Prop} {D : va_G} {cl : List vw_C} {H H1 : Heap}
theorem vj_inB {w1 w2 w3 : va_W} {k : Nat} {q : Nat × va_E} (h : w2[k]? = some q) : (w1 ++ (w2 ++ w3))[w1.length + k]? = some q := by
  rw [List.getElem?_append_right (by omega), Nat.add_sub_cancel_left, List.getElem?_append_left (List.getElem?_eq_some_iff.mp h).1]
  exact h
theorem vj_inC {w1 w2 w3 : va_W} {k : Nat} {q : Nat × va_E} (h : w3[k]? = some q) : (w1 ++ (w2 ++ w3))[w1.length + (w2.length + k)]? = some q := by
  rw [List.getElem?_append_right (by omega), Nat.add_sub_cancel_left, List.getElem?_append_right (by omega), Nat.add_sub_cancel_left]
  exact h
theorem vj_inA {w1 w2 : va_W} {k : Nat} {q : Nat × va_E} (h : w1[k]? = some q) : (w1 ++ w2)[k]? = some q := by
  rw [List.getElem?_append_left (List.getElem?_eq_some_iff.mp h).1]
  exact h
theorem vj_mP {w1 w2 w3 : va_W} (hP : va_P D cl (w1 ++ (w2 ++ w3)) H) : va_P D cl w2 H := fun k q h => hP _ q (vj_inB h)
theorem vj_mD {w1 w2 w3 : va_W} (hD : va_D A0 (w1 ++ (w2 ++ w3))) : va_D A0 w2 :=
  ⟨fun i j p q hi hj h => by have := hD.1 _ _ p q (vj_inB hi) (vj_inB hj) h; omega, fun k q h => hD.2 _ q (vj_inB h)⟩
theorem vj_mF {w1 w2 w3 : va_W} {H0 : Heap} {locs : List Loc} (hD : va_D A0 (w1 ++ (w2 ++ w3))) (hS : va_S A0 H0 H locs) (hA : ∀ q, H0.size ≤ q → A0 q) : ∀ q, va_A w2 H.size q → A0 q := by
  intro q h
  rcases h with ⟨k, e, h⟩ | h
  · exact hD.2 _ (q, e) (vj_inB h)
  · exact hA q (Nat.le_trans hS.1 h)
theorem vj_mid {w1 w2 w2' w3 : va_W} (hP : va_P D cl (w1 ++ (w2 ++ w3)) H) (hD : va_D A0 (w1 ++ (w2 ++ w3))) (hk : ∀ q : Nat, q < H.size → ¬ va_A w2 H.size q → H1[q]? = H[q]?) (hF : ∀ q, va_A w2 H.size q → A0 q) (hP1 : va_P D cl w2' H1) (hD1 : va_D (va_A w2 H.size) w2') : va_P D cl (w1 ++ (w2' ++ w3)) H1 ∧ va_D A0 (w1 ++ (w2' ++ w3)) := by
  have apart : ∀ (K : Nat) (q : Nat × va_E), (w1 ++ (w2 ++ w3))[K]? = some q → (K < w1.length ∨ w1.length + w2.length ≤ K) → q.1 < H.size ∧ ¬ va_A w2 H.size q.1 := by
    intro K q hq hK
    have hl := (hP K q hq).lt
    refine ⟨hl, fun h => ?_⟩
    rcases h with ⟨k2, e, h⟩ | h
    · have h2 := hD.1 K (w1.length + k2) q (q.1, e) hq (vj_inB h) rfl
      have h3 := (List.getElem?_eq_some_iff.mp h).1
      omega
    · omega
  have apA : ∀ (k : Nat) (q : Nat × va_E), w1[k]? = some q → q.1 < H.size ∧ ¬ va_A w2 H.size q.1 := fun k q h => apart k q (vj_inA h) (Or.inl (List.getElem?_eq_some_iff.mp h).1)
  have apC : ∀ (k : Nat) (q : Nat × va_E), w3[k]? = some q → q.1 < H.size ∧ ¬ va_A w2 H.size q.1 := fun k q h => apart _ q (vj_inC h) (Or.inr (by omega))
  refine ⟨va_P.app (fun k q h => (hP k q (vj_inA h)).kept (hk _ (apA k q h).1 (apA k q h).2)) (va_P.app hP1 (fun k q h => (hP _ q (vj_inC h)).kept (hk _ (apC k q h).1 (apC k q h).2))), ?_⟩
  have hDa : va_D A0 w1 := ⟨fun i j p q hi hj h => hD.1 i j p q (vj_inA hi) (vj_inA hj) h, fun k q h => hD.2 k q (vj_inA h)⟩
  have hDc : va_D A0 w3 := ⟨fun i j p q hi hj h => by have := hD.1 _ _ p q (vj_inC hi) (vj_inC hj) h; omega, fun k q h => hD.2 _ q (vj_inC h)⟩
  have hDb : va_D A0 w2' := hD1.weaken (fun k q _ h => hF q.1 h)
  refine va_D.app hDa (va_D.app hDb hDc (fun i j p q hi hj h => ?_)) (fun i j p q hi hj h => ?_)
  · exact (apC j q hj).2 (by rw [← h]; exact hD1.2 i p hi)
  · by_cases hb : j < w2'.length
    · rw [List.getElem?_append_left hb] at hj
      exact (apA i p hi).2 (by rw [h]; exact hD1.2 j q hj)
    · rw [List.getElem?_append_right (by omega)] at hj
      have h2 := hD.1 _ _ p q (vj_inA hi) (vj_inC hj) h
      have h3 := (List.getElem?_eq_some_iff.mp hi).1
      omega
/-- one cell of a world, by its place -/
theorem vj_oP {ws : va_W} {k x : Nat} {e : va_E} (hk : ws[k]? = some (x, e)) (hP : va_P D cl ws H) : va_P D cl [(x, e)] H := by
  intro j q hj
  match j, hj with
  | 0, hj => cases hj; exact hP k _ hk
  | j + 1, hj => simp at hj
theorem vj_oD {ws : va_W} {k x : Nat} {e : va_E} (hk : ws[k]? = some (x, e)) (hD : va_D A0 ws) : va_D A0 [(x, e)] := by
  refine ⟨fun i j p q hi hj _ => ?_, fun j q hj => ?_⟩
  · have h1 := (List.getElem?_eq_some_iff.mp hi).1
    have h2 := (List.getElem?_eq_some_iff.mp hj).1
    simp at h1 h2
    omega
  · match j, hj with
    | 0, hj => cases hj; exact hD.2 k _ hk
    | j + 1, hj => simp at hj
theorem vj_oF {ws : va_W} {k x : Nat} {e : va_E} {H0 : Heap} {locs : List Loc} (hk : ws[k]? = some (x, e)) (hD : va_D A0 ws) (hS : va_S A0 H0 H locs) (hA : ∀ q, H0.size ≤ q → A0 q) : ∀ q, va_A [(x, e)] H.size q → A0 q := by
  intro q h
  rcases h with ⟨j, e2, h⟩ | h
  · match j, h with
    | 0, h => cases h; exact hD.2 k _ hk
    | j + 1, h => simp at h
  · exact hA q (Nat.le_trans hS.1 h)
theorem vj_set {ws : va_W} {k x : Nat} {e e' : va_E} (hk0 : ws[k]? = some (x, e)) (hP : va_P D cl ws H) (hD : va_D A0 ws) (hk : ∀ q : Nat, q < H.size → ¬ va_A [(x, e)] H.size q → H1[q]? = H[q]?) (hP1 : va_P D cl [(x, e')] H1) : va_P D cl (ws.set k (x, e')) H1 ∧ va_D A0 (ws.set k (x, e')) := by
  refine ⟨fun j q hj => ?_, hD.set hk0⟩
  have hl := (List.getElem?_eq_some_iff.mp hk0).1
  by_cases hjk : j = k
  · subst hjk
    rw [List.getElem?_set_self hl] at hj
    cases hj
    exact hP1 0 _ rfl
  · rw [List.getElem?_set_ne (Ne.symm hjk)] at hj
    refine (hP j q hj).kept (hk q.1 (hP j q hj).lt (fun h => ?_))
    rcases h with ⟨i, e2, h⟩ | h
    · match i, h with
      | 0, h =>
        have h2 : q.1 = x := by cases h; rfl
        exact hjk (hD.1 j k q (x, e) hj hk0 h2)
      | i + 1, h => simp at h
    · have := (hP j q hj).lt
      omega
/-- two cells -/
theorem vj_tP {ws : va_W} {k1 x1 k2 x2 : Nat} {e1 e2 : va_E} (h1 : ws[k1]? = some (x1, e1)) (h2 : ws[k2]? = some (x2, e2)) (hP : va_P D cl ws H) : va_P D cl [(x1, e1), (x2, e2)] H := by
  intro j q hj
  match j, hj with
  | 0, hj => cases hj; exact hP k1 _ h1
  | 1, hj => cases hj; exact hP k2 _ h2
  | j + 2, hj => simp at hj
theorem vj_tD {ws : va_W} {k1 x1 k2 x2 : Nat} {e1 e2 : va_E} (h1 : ws[k1]? = some (x1, e1)) (h2 : ws[k2]? = some (x2, e2)) (hn : k1 ≠ k2) (hD : va_D A0 ws) : va_D A0 [(x1, e1), (x2, e2)] := by
  have hx : x1 ≠ x2 := fun h => hn (hD.1 k1 k2 _ _ h1 h2 h)
  refine ⟨fun i j p q hi hj h => ?_, fun j q hj => ?_⟩
  · match i, j, hi, hj with
    | 0, 0, _, _ => rfl
    | 1, 1, _, _ => rfl
    | 0, 1, hi, hj => cases hi; cases hj; exact absurd h hx
    | 1, 0, hi, hj => cases hi; cases hj; exact absurd h.symm hx
    | i + 2, _, hi, _ => simp at hi
    | _, j + 2, _, hj => simp at hj
  · match j, hj with
    | 0, hj => cases hj; exact hD.2 k1 _ h1
    | 1, hj => cases hj; exact hD.2 k2 _ h2
    | j + 2, hj => simp at hj
theorem vj_tF {ws : va_W} {k1 x1 k2 x2 : Nat} {e1 e2 : va_E} {H0 : Heap} {locs : List Loc} (h1 : ws[k1]? = some (x1, e1)) (h2 : ws[k2]? = some (x2, e2)) (hD : va_D A0 ws) (hS : va_S A0 H0 H locs) (hA : ∀ q, H0.size ≤ q → A0 q) : ∀ q, va_A [(x1, e1), (x2, e2)] H.size q → A0 q := by
  intro q h
  rcases h with ⟨j, e3, h⟩ | h
  · match j, h with
    | 0, h => cases h; exact hD.2 k1 _ h1
    | 1, h => cases h; exact hD.2 k2 _ h2
    | j + 2, h => simp at h
  · exact hA q (Nat.le_trans hS.1 h)
theorem vj_two {ws : va_W} {k1 x1 k2 x2 : Nat} {e1 e2 e1' e2' : va_E} (h1 : ws[k1]? = some (x1, e1)) (h2 : ws[k2]? = some (x2, e2)) (hn : k1 ≠ k2) (hP : va_P D cl ws H) (hD : va_D A0 ws) (hk : ∀ q : Nat, q < H.size → ¬ va_A [(x1, e1), (x2, e2)] H.size q → H1[q]? = H[q]?) (hP1 : va_P D cl [(x1, e1'), (x2, e2')] H1) : va_P D cl ((ws.set k1 (x1, e1')).set k2 (x2, e2')) H1 ∧ va_D A0 ((ws.set k1 (x1, e1')).set k2 (x2, e2')) := by
  have hl1 := (List.getElem?_eq_some_iff.mp h1).1
  have hl2 := (List.getElem?_eq_some_iff.mp h2).1
  have h2' : (ws.set k1 (x1, e1'))[k2]? = some (x2, e2) := by rw [List.getElem?_set_ne hn]; exact h2
  refine ⟨fun j q hj => ?_, (hD.set h1).set h2'⟩
  by_cases hj2 : j = k2
  · subst hj2
    rw [List.getElem?_set_self (by rw [List.length_set]; exact hl2)] at hj
    cases hj
    exact hP1 1 _ rfl
  · rw [List.getElem?_set_ne (Ne.symm hj2)] at hj
    by_cases hj1 : j = k1
    · subst hj1
      rw [List.getElem?_set_self hl1] at hj
      cases hj
      exact hP1 0 _ rfl
    · rw [List.getElem?_set_ne (Ne.symm hj1)] at hj
      refine (hP j q hj).kept (hk q.1 (hP j q hj).lt (fun h => ?_))
      rcases h with ⟨i, e3, h⟩ | h
      · match i, h with
        | 0, h =>
          have h3 : q.1 = x1 := by cases h; rfl
          exact hj1 (hD.1 j k1 q (x1, e1) hj h1 h3)
        | 1, h =>
          have h3 : q.1 = x2 := by cases h; rfl
          exact hj2 (hD.1 j k2 q (x2, e2) hj h2 h3)
        | i + 2, h => simp at h
      · have := (hP j q hj).lt
        omega
end JOIN
/-! calls with one answer, and the world behind them -/
section CALL
variable {p : Program} {l : Launch} {e : Env} {R : Room} {s : State} {m : MethodId} {args : Array Value} {below : List Frame} {meth : Method} {c : Code} {H : Heap} {locs : List Loc} {cells slots : Nat} {Q : State → Prop}
variable {pc : Nat} {ls : Array Slot} {rest st0 : List Value} {aa : Array Value} {D : va_G} {tc : List (ClassId × FieldType)} {A0 : Nat → Prop} {H0 : Heap}
theorem kr_i {RES : Int32} (hr : CallRun p l e R s m args below meth c H locs cells slots 0 0 (F0 m pc ls st0) rest (vp_Si (fun r => r = RES) aa) (fun _ => False)) (kk : W p l e R s m args below meth c H locs cells slots Q (F0 m (pc + 3) ls (.int RES :: rest))) : W p l e R s m args below meth c H locs cells slots Q (F0 m pc ls st0) := vp_callSi hr (fun r h => by subst h; exact kk)
theorem kr_d {RES : UInt64} (hr : CallRun p l e R s m args below meth c H locs cells slots 0 0 (F0 m pc ls st0) rest (vp_Sd (fun r => r = RES) aa) (fun _ => False)) (kk : W p l e R s m args below meth c H locs cells slots Q (F0 m (pc + 3) ls (.double RES :: rest))) : W p l e R s m args below meth c H locs cells slots Q (F0 m pc ls st0) := vp_callSd hr (fun r h => by subst h; exact kk)
section MID
variable {w1 w2 w2' w3 : va_W} {mc ms : Nat}
theorem kc_i {RES : Int32} (hr : va_Run p l e R s m args below meth c H locs cells slots mc ms (F0 m pc ls st0) rest (va_Qi (fun (r : Int32) (_ : Unit) => r = RES) (Bm D tc (va_A w2 H.size) w2') (va_A w2 H.size) aa) (va_A w2 H.size)) (hP : va_P D vwCl (w1 ++ (w2 ++ w3)) H) (hD : va_D A0 (w1 ++ (w2 ++ w3))) (hS : va_S A0 H0 H locs) (hA : ∀ q, H0.size ≤ q → A0 q)
    (kk : ∀ (H1 : Heap) (locs1 : List Loc), va_P D vwCl (w1 ++ (w2' ++ w3)) H1 → va_D A0 (w1 ++ (w2' ++ w3)) → va_S A0 H0 H1 locs1 → W p l e R s m args below meth c H1 locs1 (cells + mc) (slots + ms) Q (F0 m (pc + 3) ls (.int RES :: rest))) : W p l e R s m args below meth c H locs cells slots Q (F0 m pc ls st0) := by
  refine va_calli hr hS (fun q _ h => vj_mF hD hS hA q h) (vj_mF hD hS hA) (fun r u t H1 locs1 ht hvm hw hB hz hk hS1 => ?_)
  subst hw
  obtain ⟨hP1, hK1, hD1⟩ := hB
  rw [ht] at hP1
  obtain ⟨hP2, hD2⟩ := vj_mid hP hD hk (vj_mF hD hS hA) hP1 hD1
  exact kk H1 locs1 hP2 hD2 hS1
theorem kc_d {RES : UInt64} (hr : va_Run p l e R s m args below meth c H locs cells slots mc ms (F0 m pc ls st0) rest (va_Qd (fun (r : UInt64) (_ : Unit) => r = RES) (Bm D tc (va_A w2 H.size) w2') (va_A w2 H.size) aa) (va_A w2 H.size)) (hP : va_P D vwCl (w1 ++ (w2 ++ w3)) H) (hD : va_D A0 (w1 ++ (w2 ++ w3))) (hS : va_S A0 H0 H locs) (hA : ∀ q, H0.size ≤ q → A0 q)
    (kk : ∀ (H1 : Heap) (locs1 : List Loc), va_P D vwCl (w1 ++ (w2' ++ w3)) H1 → va_D A0 (w1 ++ (w2' ++ w3)) → va_S A0 H0 H1 locs1 → W p l e R s m args below meth c H1 locs1 (cells + mc) (slots + ms) Q (F0 m (pc + 3) ls (.double RES :: rest))) : W p l e R s m args below meth c H locs cells slots Q (F0 m pc ls st0) := by
  refine va_calld hr hS (fun q _ h => vj_mF hD hS hA q h) (vj_mF hD hS hA) (fun r u t H1 locs1 ht hvm hw hB hz hk hS1 => ?_)
  subst hw
  obtain ⟨hP1, hK1, hD1⟩ := hB
  rw [ht] at hP1
  obtain ⟨hP2, hD2⟩ := vj_mid hP hD hk (vj_mF hD hS hA) hP1 hD1
  exact kk H1 locs1 hP2 hD2 hS1
theorem kc_v (hr : va_Run p l e R s m args below meth c H locs cells slots mc ms (F0 m pc ls st0) rest (va_Qv (fun (_ : Unit) => True) (Bm D tc (va_A w2 H.size) w2') (va_A w2 H.size) aa) (va_A w2 H.size)) (hP : va_P D vwCl (w1 ++ (w2 ++ w3)) H) (hD : va_D A0 (w1 ++ (w2 ++ w3))) (hS : va_S A0 H0 H locs) (hA : ∀ q, H0.size ≤ q → A0 q)
    (kk : ∀ (H1 : Heap) (locs1 : List Loc), va_P D vwCl (w1 ++ (w2' ++ w3)) H1 → va_D A0 (w1 ++ (w2' ++ w3)) → va_S A0 H0 H1 locs1 → W p l e R s m args below meth c H1 locs1 (cells + mc) (slots + ms) Q (F0 m (pc + 3) ls rest)) : W p l e R s m args below meth c H locs cells slots Q (F0 m pc ls st0) := by
  refine va_callv hr hS (fun q _ h => vj_mF hD hS hA q h) (vj_mF hD hS hA) (fun u t H1 locs1 ht hvm hw hB hz hk hS1 => ?_)
  obtain ⟨hP1, hK1, hD1⟩ := hB
  rw [ht] at hP1
  obtain ⟨hP2, hD2⟩ := vj_mid hP hD hk (vj_mF hD hS hA) hP1 hD1
  exact kk H1 locs1 hP2 hD2 hS1
end MID
section ONE
variable {ws : va_W} {k x : Nat} {e0 e1 : va_E} {mc ms : Nat}
theorem ko_i {RES : Int32} (hr : va_Run p l e R s m args below meth c H locs cells slots mc ms (F0 m pc ls st0) rest (va_Qi (fun (r : Int32) (_ : Unit) => r = RES) (Bm D tc (va_A [(x, e0)] H.size) [(x, e1)]) (va_A [(x, e0)] H.size) aa) (va_A [(x, e0)] H.size)) (hk0 : ws[k]? = some (x, e0)) (hP : va_P D vwCl ws H) (hD : va_D A0 ws) (hS : va_S A0 H0 H locs) (hA : ∀ q, H0.size ≤ q → A0 q)
    (kk : ∀ (H1 : Heap) (locs1 : List Loc), va_P D vwCl (ws.set k (x, e1)) H1 → va_D A0 (ws.set k (x, e1)) → va_S A0 H0 H1 locs1 → W p l e R s m args below meth c H1 locs1 (cells + mc) (slots + ms) Q (F0 m (pc + 3) ls (.int RES :: rest))) : W p l e R s m args below meth c H locs cells slots Q (F0 m pc ls st0) := by
  refine va_calli hr hS (fun q _ h => vj_oF hk0 hD hS hA q h) (vj_oF hk0 hD hS hA) (fun r u t H1 locs1 ht hvm hw hB hz hk hS1 => ?_)
  subst hw
  obtain ⟨hP1, hK1, hD1⟩ := hB
  rw [ht] at hP1
  obtain ⟨hP2, hD2⟩ := vj_set hk0 hP hD hk hP1
  exact kk H1 locs1 hP2 hD2 hS1
theorem ko_d {RES : UInt64} (hr : va_Run p l e R s m args below meth c H locs cells slots mc ms (F0 m pc ls st0) rest (va_Qd (fun (r : UInt64) (_ : Unit) => r = RES) (Bm D tc (va_A [(x, e0)] H.size) [(x, e1)]) (va_A [(x, e0)] H.size) aa) (va_A [(x, e0)] H.size)) (hk0 : ws[k]? = some (x, e0)) (hP : va_P D vwCl ws H) (hD : va_D A0 ws) (hS : va_S A0 H0 H locs) (hA : ∀ q, H0.size ≤ q → A0 q)
    (kk : ∀ (H1 : Heap) (locs1 : List Loc), va_P D vwCl (ws.set k (x, e1)) H1 → va_D A0 (ws.set k (x, e1)) → va_S A0 H0 H1 locs1 → W p l e R s m args below meth c H1 locs1 (cells + mc) (slots + ms) Q (F0 m (pc + 3) ls (.double RES :: rest))) : W p l e R s m args below meth c H locs cells slots Q (F0 m pc ls st0) := by
  refine va_calld hr hS (fun q _ h => vj_oF hk0 hD hS hA q h) (vj_oF hk0 hD hS hA) (fun r u t H1 locs1 ht hvm hw hB hz hk hS1 => ?_)
  subst hw
  obtain ⟨hP1, hK1, hD1⟩ := hB
  rw [ht] at hP1
  obtain ⟨hP2, hD2⟩ := vj_set hk0 hP hD hk hP1
  exact kk H1 locs1 hP2 hD2 hS1
theorem ko_v (hr : va_Run p l e R s m args below meth c H locs cells slots mc ms (F0 m pc ls st0) rest (va_Qv (fun (_ : Unit) => True) (Bm D tc (va_A [(x, e0)] H.size) [(x, e1)]) (va_A [(x, e0)] H.size) aa) (va_A [(x, e0)] H.size)) (hk0 : ws[k]? = some (x, e0)) (hP : va_P D vwCl ws H) (hD : va_D A0 ws) (hS : va_S A0 H0 H locs) (hA : ∀ q, H0.size ≤ q → A0 q)
    (kk : ∀ (H1 : Heap) (locs1 : List Loc), va_P D vwCl (ws.set k (x, e1)) H1 → va_D A0 (ws.set k (x, e1)) → va_S A0 H0 H1 locs1 → W p l e R s m args below meth c H1 locs1 (cells + mc) (slots + ms) Q (F0 m (pc + 3) ls rest)) : W p l e R s m args below meth c H locs cells slots Q (F0 m pc ls st0) := by
  refine va_callv hr hS (fun q _ h => vj_oF hk0 hD hS hA q h) (vj_oF hk0 hD hS hA) (fun u t H1 locs1 ht hvm hw hB hz hk hS1 => ?_)
  obtain ⟨hP1, hK1, hD1⟩ := hB
  rw [ht] at hP1
  obtain ⟨hP2, hD2⟩ := vj_set hk0 hP hD hk hP1
  exact kk H1 locs1 hP2 hD2 hS1
end ONE
section TWO
variable {ws : va_W} {k1 x1 k2 x2 : Nat} {a0 a1 b0 b1 : va_E} {mc ms : Nat}
theorem kt_d {RES : UInt64} (hr : va_Run p l e R s m args below meth c H locs cells slots mc ms (F0 m pc ls st0) rest (va_Qd (fun (r : UInt64) (_ : Unit) => r = RES) (Bm D tc (va_A [(x1, a0), (x2, b0)] H.size) [(x1, a1), (x2, b1)]) (va_A [(x1, a0), (x2, b0)] H.size) aa) (va_A [(x1, a0), (x2, b0)] H.size)) (h1 : ws[k1]? = some (x1, a0)) (h2 : ws[k2]? = some (x2, b0)) (hn : k1 ≠ k2) (hP : va_P D vwCl ws H) (hD : va_D A0 ws) (hS : va_S A0 H0 H locs) (hA : ∀ q, H0.size ≤ q → A0 q)
    (kk : ∀ (H1 : Heap) (locs1 : List Loc), va_P D vwCl ((ws.set k1 (x1, a1)).set k2 (x2, b1)) H1 → va_D A0 ((ws.set k1 (x1, a1)).set k2 (x2, b1)) → va_S A0 H0 H1 locs1 → W p l e R s m args below meth c H1 locs1 (cells + mc) (slots + ms) Q (F0 m (pc + 3) ls (.double RES :: rest))) : W p l e R s m args below meth c H locs cells slots Q (F0 m pc ls st0) := by
  refine va_calld hr hS (fun q _ h => vj_tF h1 h2 hD hS hA q h) (vj_tF h1 h2 hD hS hA) (fun r u t H1 locs1 ht hvm hw hB hz hk hS1 => ?_)
  subst hw
  obtain ⟨hP1, hK1, hD1⟩ := hB
  rw [ht] at hP1
  obtain ⟨hP2, hD2⟩ := vj_two h1 h2 hn hP hD hk hP1
  exact kk H1 locs1 hP2 hD2 hS1
theorem kt_v (hr : va_Run p l e R s m args below meth c H locs cells slots mc ms (F0 m pc ls st0) rest (va_Qv (fun (_ : Unit) => True) (Bm D tc (va_A [(x1, a0), (x2, b0)] H.size) [(x1, a1), (x2, b1)]) (va_A [(x1, a0), (x2, b0)] H.size) aa) (va_A [(x1, a0), (x2, b0)] H.size)) (h1 : ws[k1]? = some (x1, a0)) (h2 : ws[k2]? = some (x2, b0)) (hn : k1 ≠ k2) (hP : va_P D vwCl ws H) (hD : va_D A0 ws) (hS : va_S A0 H0 H locs) (hA : ∀ q, H0.size ≤ q → A0 q)
    (kk : ∀ (H1 : Heap) (locs1 : List Loc), va_P D vwCl ((ws.set k1 (x1, a1)).set k2 (x2, b1)) H1 → va_D A0 ((ws.set k1 (x1, a1)).set k2 (x2, b1)) → va_S A0 H0 H1 locs1 → W p l e R s m args below meth c H1 locs1 (cells + mc) (slots + ms) Q (F0 m (pc + 3) ls rest)) : W p l e R s m args below meth c H locs cells slots Q (F0 m pc ls st0) := by
  refine va_callv hr hS (fun q _ h => vj_tF h1 h2 hD hS hA q h) (vj_tF h1 h2 hD hS hA) (fun u t H1 locs1 ht hvm hw hB hz hk hS1 => ?_)
  obtain ⟨hP1, hK1, hD1⟩ := hB
  rw [ht] at hP1
  obtain ⟨hP2, hD2⟩ := vj_two h1 h2 hn hP hD hk hP1
  exact kk H1 locs1 hP2 hD2 hS1
end TWO
theorem kd_eq {x y : UInt64} (h : x = y) (k : W p l e R s m args below meth c H locs cells slots Q (F0 m pc ls (.double y :: rest))) : W p l e R s m args below meth c H locs cells slots Q (F0 m pc ls (.double x :: rest)) := by subst h; exact k
theorem ki_eq {x y : Int32} (h : x = y) (k : W p l e R s m args below meth c H locs cells slots Q (F0 m pc ls (.int y :: rest))) : W p l e R s m args below meth c H locs cells slots Q (F0 m pc ls (.int x :: rest)) := by subst h; exact k
theorem kW_H {g : JFrame} (k : ∀ H : Heap, H = s.heap → W p l e R s m args below meth c H locs cells slots Q g) : W p l e R s m args below meth c s.heap locs cells slots Q g := k _ rfl
/-! doubles: constants 0 and 1, a comparison with its branch -/
variable {cc : ByteArray}
theorem kd_0 (hexec : p.tables.exec = Jvm.exec) (hb : c.code = cc) (hdg : decode cc pc = .ok (.dconst 0, 1)) (k : W p l e R s m args below meth c H locs cells slots Q (F0 m (pc + 1) ls (.double 0 :: rest))) : W p l e R s m args below meth c H locs cells slots Q (F0 m pc ls rest) := lv_dconst0 hexec hb hdg k
theorem kd_1 (hexec : p.tables.exec = Jvm.exec) (hb : c.code = cc) (hdg : decode cc pc = .ok (.dconst 1, 1)) (k : W p l e R s m args below meth c H locs cells slots Q (F0 m (pc + 1) ls (.double 4607182418800017408 :: rest))) : W p l e R s m args below meth c H locs cells slots Q (F0 m pc ls rest) := lv_dconst1 hexec hb hdg k
theorem cv_ge (o : Option Ordering) (op : CmpOp) (h : o ≠ none) : 0 ≤ Op.cmpValue o op ↔ o ≠ some .lt := by
  rcases o with _ | (_ | _ | _)
  · exact absurd rfl h
  all_goals simp [Op.cmpValue]
  all_goals decide
theorem cv_lt (o : Option Ordering) (op : CmpOp) (h : o ≠ none) : Op.cmpValue o op < 0 ↔ o = some .lt := by
  rcases o with _ | (_ | _ | _)
  · exact absurd rfl h
  all_goals simp [Op.cmpValue]
  all_goals decide
theorem cv_gt (o : Option Ordering) (op : CmpOp) (h : o ≠ none) : 0 < Op.cmpValue o op ↔ o = some .gt := by
  rcases o with _ | (_ | _ | _)
  · exact absurd rfl h
  all_goals simp [Op.cmpValue]
  all_goals decide
theorem cv_le (o : Option Ordering) (op : CmpOp) (h : o ≠ none) : Op.cmpValue o op ≤ 0 ↔ o ≠ some .gt := by
  rcases o with _ | (_ | _ | _)
  · exact absurd rfl h
  all_goals simp [Op.cmpValue]
  all_goals decide
section CMP
variable {x y : UInt64} {op : CmpOp} {off : Int} {tgt : Nat}
theorem kd_ge (hexec : p.tables.exec = Jvm.exec) (hb : c.code = cc) (hd1 : decode cc pc = .ok (.dcmp op, 1)) (hd2 : decode cc (pc + 1) = .ok (.ifCond .ge off, 3)) (ht : ((pc + 1 : Nat) : Int) + off = (tgt : Int)) (hne : FP.dcmp x y ≠ none)
    (kt : FP.dcmp x y ≠ some .lt → W p l e R s m args below meth c H locs cells slots Q (F0 m tgt ls rest)) (kf : FP.dcmp x y = some .lt → W p l e R s m args below meth c H locs cells slots Q (F0 m (pc + 4) ls rest)) : W p l e R s m args below meth c H locs cells slots Q (F0 m pc ls (.double y :: .double x :: rest)) := by
  refine lv_dcmp hexec hb hd1 ?_
  exact lv_if_ge hexec hb hd2 ht (fun h => kt ((cv_ge _ _ hne).mp h)) (fun h => kf (Classical.byContradiction fun h2 => h ((cv_ge _ _ hne).mpr h2)))
theorem kd_lt (hexec : p.tables.exec = Jvm.exec) (hb : c.code = cc) (hd1 : decode cc pc = .ok (.dcmp op, 1)) (hd2 : decode cc (pc + 1) = .ok (.ifCond .lt off, 3)) (ht : ((pc + 1 : Nat) : Int) + off = (tgt : Int)) (hne : FP.dcmp x y ≠ none)
    (kt : FP.dcmp x y = some .lt → W p l e R s m args below meth c H locs cells slots Q (F0 m tgt ls rest)) (kf : FP.dcmp x y ≠ some .lt → W p l e R s m args below meth c H locs cells slots Q (F0 m (pc + 4) ls rest)) : W p l e R s m args below meth c H locs cells slots Q (F0 m pc ls (.double y :: .double x :: rest)) := by
  refine lv_dcmp hexec hb hd1 ?_
  exact lv_if_lt hexec hb hd2 ht (fun h => kt ((cv_lt _ _ hne).mp h)) (fun h => kf (fun h2 => h ((cv_lt _ _ hne).mpr h2)))
theorem kd_gt (hexec : p.tables.exec = Jvm.exec) (hb : c.code = cc) (hd1 : decode cc pc = .ok (.dcmp op, 1)) (hd2 : decode cc (pc + 1) = .ok (.ifCond .gt off, 3)) (ht : ((pc + 1 : Nat) : Int) + off = (tgt : Int)) (hne : FP.dcmp x y ≠ none)
    (kt : FP.dcmp x y = some .gt → W p l e R s m args below meth c H locs cells slots Q (F0 m tgt ls rest)) (kf : FP.dcmp x y ≠ some .gt → W p l e R s m args below meth c H locs cells slots Q (F0 m (pc + 4) ls rest)) : W p l e R s m args below meth c H locs cells slots Q (F0 m pc ls (.double y :: .double x :: rest)) := by
  refine lv_dcmp hexec hb hd1 ?_
  exact lv_if_gt hexec hb hd2 ht (fun h => kt ((cv_gt _ _ hne).mp h)) (fun h => kf (fun h2 => h ((cv_gt _ _ hne).mpr h2)))
theorem kd_le (hexec : p.tables.exec = Jvm.exec) (hb : c.code = cc) (hd1 : decode cc pc = .ok (.dcmp op, 1)) (hd2 : decode cc (pc + 1) = .ok (.ifCond .le off, 3)) (ht : ((pc + 1 : Nat) : Int) + off = (tgt : Int)) (hne : FP.dcmp x y ≠ none)
    (kt : FP.dcmp x y ≠ some .gt → W p l e R s m args below meth c H locs cells slots Q (F0 m tgt ls rest)) (kf : FP.dcmp x y = some .gt → W p l e R s m args below meth c H locs cells slots Q (F0 m (pc + 4) ls rest)) : W p l e R s m args below meth c H locs cells slots Q (F0 m pc ls (.double y :: .double x :: rest)) := by
  refine lv_dcmp hexec hb hd1 ?_
  exact lv_if_le hexec hb hd2 ht (fun h => kt ((cv_le _ _ hne).mp h)) (fun h => kf (Classical.byContradiction fun h2 => h ((cv_le _ _ hne).mpr h2)))
end CMP
end CALL
theorem cmp_ne {a b : UInt64} (ha : FP.Core.val64 a ≠ .nan) (hb : FP.Core.val64 b ≠ .nan) : FP.dcmp a b ≠ none := by
  rw [cmp_zv ha hb]; exact fun h => nomatch h
/-! the worlds: a barrel, a row -/
abbrev EB (w z : Int32) (li ag ac su : UInt64) : va_E := .inr (0, [.int w, .int z, .double li, .double ag, .double ac, .double su])
abbrev ER (la : Nat) (n wm df : Int32) (q : UInt64) : va_E := .inr (1, [.ref la, .int n, .int wm, .int df, .double q])
abbrev EL (cA : ClassId) (bs : Nat → Nat) : va_E := .inl (cA, (8, .inr (.inr (.inr (.inr (fun i => some (bs i)))))))
/-- what barrel i holds, out of one table: litres, age, acid, sugar, eight of each -/
abbrev Bk (wd zs : Nat → Int32) (h : Nat → UInt64) (i : Nat) : va_E := EB (wd i) (zs i) (h i) (h (8 + i)) (h (16 + i)) (h (24 + i))
def rowW (r la : Nat) (bs : Nat → Nat) (cA : ClassId) (n wm df : Int32) (q : UInt64) (wd zs : Nat → Int32) (h : Nat → UInt64) : va_W :=
  [(r, ER la n wm df q), (la, EL cA bs), (bs 0, Bk wd zs h 0), (bs 1, Bk wd zs h 1), (bs 2, Bk wd zs h 2), (bs 3, Bk wd zs h 3), (bs 4, Bk wd zs h 4), (bs 5, Bk wd zs h 5), (bs 6, Bk wd zs h 6), (bs 7, Bk wd zs h 7)]
/-- barrel i holds something else -/
def hset (h : Nat → UInt64) (i : Nat) (li ag ac su : UInt64) : Nat → UInt64 := fun k => if k = i then li else if k = 8 + i then ag else if k = 16 + i then ac else if k = 24 + i then su else h k
theorem lt8 {P : Nat → Prop} (h0 : P 0) (h1 : P 1) (h2 : P 2) (h3 : P 3) (h4 : P 4) (h5 : P 5) (h6 : P 6) (h7 : P 7) {i : Nat} (hi : i < 8) : P i := by
  match i, hi with
  | 0, _ => exact h0
  | 1, _ => exact h1
  | 2, _ => exact h2
  | 3, _ => exact h3
  | 4, _ => exact h4
  | 5, _ => exact h5
  | 6, _ => exact h6
  | 7, _ => exact h7
  | i + 8, hi => omega
section ROWW
variable {r la : Nat} {bs : Nat → Nat} {cA : ClassId} {n wm df : Int32} {q : UInt64} {wd zs : Nat → Int32} {h : Nat → UInt64}
theorem rowW_b {i : Nat} (hi : i < 8) : (rowW r la bs cA n wm df q wd zs h)[2 + i]? = some (bs i, Bk wd zs h i) :=
  lt8 (P := fun i => (rowW r la bs cA n wm df q wd zs h)[2 + i]? = some (bs i, Bk wd zs h i)) rfl rfl rfl rfl rfl rfl rfl rfl hi
theorem rowW_sh {i : Nat} (hi : i < 8) (li ag ac su : UInt64) : (rowW r la bs cA n wm df q wd zs h).set (2 + i) (bs i, EB (wd i) (zs i) li ag ac su) = rowW r la bs cA n wm df q wd zs (hset h i li ag ac su) :=
  lt8 (P := fun i => (rowW r la bs cA n wm df q wd zs h).set (2 + i) (bs i, EB (wd i) (zs i) li ag ac su) = rowW r la bs cA n wm df q wd zs (hset h i li ag ac su)) (by simp [rowW, hset]) (by simp [rowW, hset]) (by simp [rowW, hset]) (by simp [rowW, hset]) (by simp [rowW, hset]) (by simp [rowW, hset]) (by simp [rowW, hset]) (by simp [rowW, hset]) hi
theorem rowW_sw {i : Nat} (hi : i < 8) (w : Int32) : (rowW r la bs cA n wm df q wd zs h).set (2 + i) (bs i, EB w (zs i) (h i) (h (8 + i)) (h (16 + i)) (h (24 + i))) = rowW r la bs cA n wm df q (va_up wd i w) zs h :=
  lt8 (P := fun i => (rowW r la bs cA n wm df q wd zs h).set (2 + i) (bs i, EB w (zs i) (h i) (h (8 + i)) (h (16 + i)) (h (24 + i))) = rowW r la bs cA n wm df q (va_up wd i w) zs h) (by simp [rowW, va_up]) (by simp [rowW, va_up]) (by simp [rowW, va_up]) (by simp [rowW, va_up]) (by simp [rowW, va_up]) (by simp [rowW, va_up]) (by simp [rowW, va_up]) (by simp [rowW, va_up]) hi
theorem rowW_sz {i : Nat} (hi : i < 8) (z : Int32) : (rowW r la bs cA n wm df q wd zs h).set (2 + i) (bs i, EB (wd i) z (h i) (h (8 + i)) (h (16 + i)) (h (24 + i))) = rowW r la bs cA n wm df q wd (va_up zs i z) h :=
  lt8 (P := fun i => (rowW r la bs cA n wm df q wd zs h).set (2 + i) (bs i, EB (wd i) z (h i) (h (8 + i)) (h (16 + i)) (h (24 + i))) = rowW r la bs cA n wm df q wd (va_up zs i z) h) (by simp [rowW, va_up]) (by simp [rowW, va_up]) (by simp [rowW, va_up]) (by simp [rowW, va_up]) (by simp [rowW, va_up]) (by simp [rowW, va_up]) (by simp [rowW, va_up]) (by simp [rowW, va_up]) hi
end ROWW
end
section
/-! what one barrel does, in doubles -/
def mixv (v x w y : UInt64) : UInt64 := FP.ddiv (FP.dadd (FP.dmul v x) (FP.dmul w y)) (FP.dadd v w)
/-- mixing w litres into v goes well: no NaN, more than nothing -/
def mixok (v x w y : UInt64) : Prop := vf_n64 (FP.dadd v w) ∧ FP.dcmp (FP.dadd v w) 0 = some .gt ∧ vf_n64 (FP.dmul v x) ∧ vf_n64 (FP.dmul w y) ∧ vf_n64 (FP.dadd (FP.dmul v x) (FP.dmul w y)) ∧ vf_n64 (mixv v x w y)
theorem gt_ne {o : Option Ordering} (h : o = some .gt) : o ≠ none := by rw [h]; exact fun h => nomatch h
theorem lt_ne {o : Option Ordering} (h : o = some .lt) : o ≠ none := by rw [h]; exact fun h => nomatch h
/-- 1: empty; 0: not -/
def emp (li : UInt64) : Int32 := if FP.dcmp li 0 = some .gt then 0 else 1
/-- the share of a wood -/
def shv (w : Int32) : UInt64 := if w = 0 then 4581421828931458171 else if w = 1 then 4584304132692975288 else if w = 2 then 4585204852618449388 else 4582862980812216730
/-- taking out -/
def tkE (w z : Int32) (li ag ac su less : UInt64) : va_E := if FP.dcmp (FP.dsub li less) 0 = some .gt then EB w z (FP.dsub li less) ag ac su else EB w z 0 0 0 0
/-- the acid and the sugar a year on -/
def soA (ac su : UInt64) : UInt64 := if FP.dcmp su 4626322717216342016 = some .gt ∧ FP.dcmp ac 4620693217682128896 = some .lt then FP.dadd ac 4603579539098121011 else if FP.dcmp (FP.dadd ac 4591870180066957722) 4622945017495814144 = some .gt then 4622945017495814144 else FP.dadd ac 4591870180066957722
def soS (ac su : UInt64) : UInt64 := if FP.dcmp su 4626322717216342016 = some .gt ∧ FP.dcmp ac 4620693217682128896 = some .lt then FP.dsub su 4605380978949069210 else su
def sook (ac su : UInt64) : Prop := FP.dcmp su 4626322717216342016 ≠ none ∧ FP.dcmp ac 4620693217682128896 ≠ none ∧ vf_n64 (FP.dadd ac 4603579539098121011) ∧ vf_n64 (FP.dsub su 4605380978949069210) ∧ vf_n64 (FP.dadd ac 4591870180066957722) ∧ FP.dcmp (FP.dadd ac 4591870180066957722) 4622945017495814144 ≠ none
/-- what a year takes of li litres -/
def losv (w : Int32) (li dr : UInt64) : UInt64 := FP.dmul (FP.dmul li (shv w)) dr
/-- the sugar before it sours, at most 70 -/
def thick (su li be : UInt64) : UInt64 := if FP.dcmp (FP.ddiv (FP.dmul su li) be) 4634626229029306368 = some .gt then 4634626229029306368 else FP.ddiv (FP.dmul su li) be
def yearok (w : Int32) (li ag ac su dr : UInt64) : Prop :=
  vf_n64 (FP.dmul li (shv w)) ∧ vf_n64 (losv w li dr) ∧ vf_n64 (FP.dsub li (losv w li dr)) ∧ FP.dcmp (FP.dsub li (losv w li dr)) 0 = some .gt ∧ vf_n64 (FP.dmul su li) ∧ vf_n64 (FP.ddiv (FP.dmul su li) (FP.dsub li (losv w li dr))) ∧ FP.dcmp (FP.ddiv (FP.dmul su li) (FP.dsub li (losv w li dr))) 4634626229029306368 ≠ none ∧ sook ac (thick su li (FP.dsub li (losv w li dr))) ∧ vf_n64 (FP.dadd ag 4607182418800017408)
/-- the size of a difference -/
def absv (x : UInt64) : UInt64 := if FP.dcmp x 0 = some .lt then FP.dneg x else x
def tasv (li ag ac su : UInt64) : UInt64 := if FP.dcmp li 0 = some .gt then FP.dsub (FP.dadd (FP.dmul 4602678819172646912 ag) (FP.dmul 4605380978949069210 su)) (FP.dmul 4613937818241073152 (absv (FP.dsub ac 4618441417868443648))) else 0
def tasok (ag ac su : UInt64) : Prop := vf_n64 (FP.dsub ac 4618441417868443648) ∧ FP.dcmp (FP.dsub ac 4618441417868443648) 0 ≠ none ∧ vf_n64 (FP.dmul 4602678819172646912 ag) ∧ vf_n64 (FP.dmul 4605380978949069210 su) ∧ vf_n64 (FP.dadd (FP.dmul 4602678819172646912 ag) (FP.dmul 4605380978949069210 su)) ∧ vf_n64 (FP.dmul 4613937818241073152 (absv (FP.dsub ac 4618441417868443648))) ∧ vf_n64 (FP.dsub (FP.dadd (FP.dmul 4602678819172646912 ag) (FP.dmul 4605380978949069210 su)) (FP.dmul 4613937818241073152 (absv (FP.dsub ac 4618441417868443648))))
end
section
/-! VinegarLoft$Barrel: its methods (laid by wip/whole/prog/x0.py) -/
theorem by_contra_sw {k : Int32} (e0 : ¬ k = 0) (e1 : ¬ k = 1) (e2 : ¬ k = 2) : k.toInt < 0 ∨ 2 < k.toInt := by
  refine Classical.byContradiction fun h => ?_
  have h1 : k.toInt = 0 ∨ k.toInt = 1 ∨ k.toInt = 2 := by omega
  rcases h1 with h1 | h1 | h1
  · exact e0 (Int32.toInt.inj (by rw [h1]; rfl))
  · exact e1 (Int32.toInt.inj (by rw [h1]; rfl))
  · exact e2 (Int32.toInt.inj (by rw [h1]; rfl))
set_option maxHeartbeats 4000000 in
set_option maxRecDepth 100000 in
/-- Barrel(): nothing changes -/
theorem metX0_init (l : Launch) (D : va_G) (sz : Nat) (a : Nat) (w z : Int32) (li ag ac su : UInt64)  : Met l yX0_init wsX0_init { frames := 1, cells := 0, slots := 0, locals := 12 } (Pm D [] [.ref a] ([(a, .inr (0, [.int w, .int z, .double li, .double ag, .double ac, .double su]))]) sz) (va_Qv (fun (_ : Unit) => True) (Bm D [] (va_A ([(a, .inr (0, [.int w, .int z, .double li, .double ag, .double ac, .double su]))]) sz) ([(a, .inr (0, [.int w, .int z, .double li, .double ag, .double ac, .double su]))])) (va_A ([(a, .inr (0, [.int w, .int z, .double li, .double ag, .double ac, .double su]))]) sz)) 0 0 (va_A ([(a, .inr (0, [.int w, .int z, .double li, .double ag, .double ac, .double su]))]) sz) := by
  refine Met.ofW (cc := cX0_init) (maxL := 1) (ret := none) (by decide) rfl ?_
  intro p e s m args below meth c s₁ B hml hv
  obtain ⟨rfl, hsz, hP, hK, hD0⟩ := hv
  have hx := B.exec
  have hb := B.bytes
  have hr := B.returns
  have hts := atoms_spec (ws := wsX0_init) B.pre
  have hown : s.vm.findClass RX0 = some m.cls := findClass_of_methodNamed B.named
  have hlocks := B.notSynchronized
  have hin : meth.name = "<init>" := (name_of_methodNamed B.named B.method).1
  subst hsz
  have hD := hD0.self (sz := s.heap.size)
  generalize hAe : va_A ([(a, .inr (0, [.int w, .int z, .double li, .double ag, .double ac, .double su]))]) s.heap.size = A at hD ⊢
  have hA : ∀ q : Nat, s.heap.size ≤ q → A q := fun q h => by rw [← hAe]; exact Or.inr h
  refine kW_H (fun H hH => ?_)
  have hP : va_P D vwCl ([(a, .inr (0, [.int w, .int z, .double li, .double ag, .double ac, .double su]))]) H := by rw [hH]; exact hP
  have hS : va_S A s.heap H [] := by rw [hH]; exact va_S.rf
  have hl := lv_entry ([.ref a]) (n := 1) (Nat.le_of_ble_eq_true rfl)
  rw [lg_entry_eq]
  generalize (lg_sl ([.ref a]) ++ List.replicate (1 - (lg_sl ([.ref a])).length) Slot.unset).toArray = ls at hl ⊢
  have hl : lv_has ls 1 [(0, .ref a)] := hl
  refine lv_aload_n hx hb dX0_init_0 rfl (lv_at hl 0 rfl) ?_
  refine W.objInit hx hb hown (hts (.methodLink RX0 1 objectInit) (by decide +kernel)) (hts (.instanceMethod objectInit) (by decide +kernel)) (hts (.code objectInit ⟨#[0xb1]⟩ 1 none) (by decide +kernel)) rfl (by rw [hml]; exact hl.1) rfl dX0_init_1 (Nat.le_of_ble_eq_true rfl) (Nat.le_of_ble_eq_true rfl) ?_
  refine W.eq (g2 := F0 m 4 ls []) rfl ?_
  exact W.vret hx hb hr (fun t ht hW => ⟨⟨(), rfl, trivial, by rw [ht]; exact hP, va_K.moved hW.alike hK, hD⟩, hS.F ht⟩) hS.2.2 dX0_init_4
set_option maxHeartbeats 4000000 in
set_option maxRecDepth 100000 in
/-- isEmpty() -/
theorem metX0_isEmpty (l : Launch) (D : va_G) (a : Nat) (w z : Int32) (li ag ac su : UInt64) (h0 : FP.dcmp li 0 ≠ none) : Met l yX0_isEmpty wsX0_isEmpty { frames := 0, cells := 0, slots := 0, locals := 0 } (Pr D [] [.ref a] ([(a, .inr (0, [.int w, .int z, .double li, .double ag, .double ac, .double su]))])) (vp_Si (fun r : Int32 => r = emp li)) 0 0 (fun _ => False) := by
  refine Met.ofW (cc := cX0_isEmpty) (maxL := 1) (ret := (some .boolean)) (by decide) rfl ?_
  intro p e s m args below meth c s₁ B hml hv
  obtain ⟨rfl, hP, hK⟩ := hv
  have hx := B.exec
  have hb := B.bytes
  have hr := B.returns
  have hts := atoms_spec (ws := wsX0_isEmpty) B.pre
  have hown : s.vm.findClass RX0 = some m.cls := findClass_of_methodNamed B.named
  have hlocks := B.notSynchronized
  have hl := lv_entry ([.ref a]) (n := 1) (Nat.le_of_ble_eq_true rfl)
  rw [lg_entry_eq]
  generalize (lg_sl ([.ref a]) ++ List.replicate (1 - (lg_sl ([.ref a])).length) Slot.unset).toArray = ls at hl ⊢
  have hl : lv_has ls 1 [(0, .ref a)] := hl
  refine lv_aload_n hx hb dX0_isEmpty_0 rfl (lv_at hl 0 rfl) ?_
  refine va_get (D := D) (ci := 0) (v := .double li) (C := RX0) (T := TX0) (N := 6) hx hb hts (by decide +kernel) hown hK hP (0) rfl rfl 2 (by decide) (hts (.fieldLink RX0 16 "VinegarLoft$Barrel" "litres" "D") (by decide +kernel)) (fun _ h9 => h9) rfl dX0_isEmpty_1 ?_
  refine kd_0 hx hb dX0_isEmpty_4 ?_
  refine kd_gt (tgt := 13) hx hb dX0_isEmpty_5 dX0_isEmpty_6 (by decide) h0 (fun c5 => ?_) (fun c5 => ?_)
  · refine lv_iconst (v := 0) hx hb dX0_isEmpty_13 (by decide) ?_
    exact W.zret hx hb hr (by first | rfl | decide) (fun t ht hW => ⟨_, rfl, by unfold emp; rw [if_pos c5], ht⟩) (fun q hq => absurd hq List.not_mem_nil) dX0_isEmpty_14
  · refine lv_iconst (v := 1) hx hb dX0_isEmpty_9 (by decide) ?_
    refine lv_goto (tgt := 14) hx hb dX0_isEmpty_10 (by decide) ?_
    exact W.zret hx hb hr (by first | rfl | decide) (fun t ht hW => ⟨_, rfl, by unfold emp; rw [if_neg c5], ht⟩) (fun q hq => absurd hq List.not_mem_nil) dX0_isEmpty_14
set_option maxHeartbeats 4000000 in
set_option maxRecDepth 100000 in
/-- clear(): zeros -/
theorem metX0_clear (l : Launch) (D : va_G) (sz : Nat) (a : Nat) (w z : Int32) (li ag ac su : UInt64)  : Met l yX0_clear wsX0_clear { frames := 0, cells := 0, slots := 0, locals := 0 } (Pm D [] [.ref a] ([(a, .inr (0, [.int w, .int z, .double li, .double ag, .double ac, .double su]))]) sz) (va_Qv (fun (_ : Unit) => True) (Bm D [] (va_A ([(a, .inr (0, [.int w, .int z, .double li, .double ag, .double ac, .double su]))]) sz) ([(a, .inr (0, [.int w, .int z, .double 0, .double 0, .double 0, .double 0]))])) (va_A ([(a, .inr (0, [.int w, .int z, .double li, .double ag, .double ac, .double su]))]) sz)) 0 0 (va_A ([(a, .inr (0, [.int w, .int z, .double li, .double ag, .double ac, .double su]))]) sz) := by
  refine Met.ofW (cc := cX0_clear) (maxL := 1) (ret := none) (by decide) rfl ?_
  intro p e s m args below meth c s₁ B hml hv
  obtain ⟨rfl, hsz, hP, hK, hD0⟩ := hv
  have hx := B.exec
  have hb := B.bytes
  have hr := B.returns
  have hts := atoms_spec (ws := wsX0_clear) B.pre
  have hown : s.vm.findClass RX0 = some m.cls := findClass_of_methodNamed B.named
  have hlocks := B.notSynchronized
  subst hsz
  have hD := hD0.self (sz := s.heap.size)
  generalize hAe : va_A ([(a, .inr (0, [.int w, .int z, .double li, .double ag, .double ac, .double su]))]) s.heap.size = A at hD ⊢
  have hA : ∀ q : Nat, s.heap.size ≤ q → A q := fun q h => by rw [← hAe]; exact Or.inr h
  refine kW_H (fun H hH => ?_)
  have hP : va_P D vwCl ([(a, .inr (0, [.int w, .int z, .double li, .double ag, .double ac, .double su]))]) H := by rw [hH]; exact hP
  have hS : va_S A s.heap H [] := by rw [hH]; exact va_S.rf
  have hl := lv_entry ([.ref a]) (n := 1) (Nat.le_of_ble_eq_true rfl)
  rw [lg_entry_eq]
  generalize (lg_sl ([.ref a]) ++ List.replicate (1 - (lg_sl ([.ref a])).length) Slot.unset).toArray = ls at hl ⊢
  have hl : lv_has ls 1 [(0, .ref a)] := hl
  refine lv_aload_n hx hb dX0_clear_0 rfl (lv_at hl 0 rfl) ?_
  refine kd_0 hx hb dX0_clear_1 ?_
  refine va_put (D := D) (ci := 0) (v := .double 0) (ty := .double) (C := RX0) (T := TX0) (N := 6) hx hb hts (by decide +kernel) tyX0 tyX0_ok nmX0 hown hK hP hD hS (0) rfl rfl 2 (by decide) (hts (.fieldLink RX0 16 "VinegarLoft$Barrel" "litres" "D") (by decide +kernel)) (fun _ h9 => h9) rfl (by decide +kernel) rfl rfl (Nat.le_of_ble_eq_true rfl) dX0_clear_2 (fun H locs hP hD hS => ?_)
  have hP : va_P D vwCl [(a, .inr (0, [.int w, .int z, .double 0, .double ag, .double ac, .double su]))] H := hP
  have hD : va_D A [(a, .inr (0, [.int w, .int z, .double 0, .double ag, .double ac, .double su]))] := hD
  refine lv_aload_n hx hb dX0_clear_5 rfl (lv_at hl 0 rfl) ?_
  refine kd_0 hx hb dX0_clear_6 ?_
  refine va_put (D := D) (ci := 0) (v := .double 0) (ty := .double) (C := RX0) (T := TX0) (N := 6) hx hb hts (by decide +kernel) tyX0 tyX0_ok nmX0 hown hK hP hD hS (0) rfl rfl 3 (by decide) (hts (.fieldLink RX0 20 "VinegarLoft$Barrel" "age" "D") (by decide +kernel)) (fun _ h9 => h9) rfl (by decide +kernel) rfl rfl (Nat.le_of_ble_eq_true rfl) dX0_clear_7 (fun H locs hP hD hS => ?_)
  have hP : va_P D vwCl [(a, .inr (0, [.int w, .int z, .double 0, .double 0, .double ac, .double su]))] H := hP
  have hD : va_D A [(a, .inr (0, [.int w, .int z, .double 0, .double 0, .double ac, .double su]))] := hD
  refine lv_aload_n hx hb dX0_clear_10 rfl (lv_at hl 0 rfl) ?_
  refine kd_0 hx hb dX0_clear_11 ?_
  refine va_put (D := D) (ci := 0) (v := .double 0) (ty := .double) (C := RX0) (T := TX0) (N := 6) hx hb hts (by decide +kernel) tyX0 tyX0_ok nmX0 hown hK hP hD hS (0) rfl rfl 4 (by decide) (hts (.fieldLink RX0 23 "VinegarLoft$Barrel" "acid" "D") (by decide +kernel)) (fun _ h9 => h9) rfl (by decide +kernel) rfl rfl (Nat.le_of_ble_eq_true rfl) dX0_clear_12 (fun H locs hP hD hS => ?_)
  have hP : va_P D vwCl [(a, .inr (0, [.int w, .int z, .double 0, .double 0, .double 0, .double su]))] H := hP
  have hD : va_D A [(a, .inr (0, [.int w, .int z, .double 0, .double 0, .double 0, .double su]))] := hD
  refine lv_aload_n hx hb dX0_clear_15 rfl (lv_at hl 0 rfl) ?_
  refine kd_0 hx hb dX0_clear_16 ?_
  refine va_put (D := D) (ci := 0) (v := .double 0) (ty := .double) (C := RX0) (T := TX0) (N := 6) hx hb hts (by decide +kernel) tyX0 tyX0_ok nmX0 hown hK hP hD hS (0) rfl rfl 5 (by decide) (hts (.fieldLink RX0 26 "VinegarLoft$Barrel" "sugar" "D") (by decide +kernel)) (fun _ h9 => h9) rfl (by decide +kernel) rfl rfl (Nat.le_of_ble_eq_true rfl) dX0_clear_17 (fun H locs hP hD hS => ?_)
  have hP : va_P D vwCl [(a, .inr (0, [.int w, .int z, .double 0, .double 0, .double 0, .double 0]))] H := hP
  have hD : va_D A [(a, .inr (0, [.int w, .int z, .double 0, .double 0, .double 0, .double 0]))] := hD
  exact W.vret hx hb hr (fun t ht hW => ⟨⟨(), rfl, trivial, by rw [ht]; exact hP, va_K.moved hW.alike hK, hD⟩, hS.F ht⟩) hS.2.2 dX0_clear_20
set_option maxHeartbeats 4000000 in
set_option maxRecDepth 100000 in
/-- mixed(..), where there is something -/
theorem metX0_mixed (l : Launch) (D : va_G) (v x w y : UInt64) (h : mixok v x w y) : Met l yX0_mixed wsX0_mixed { frames := 0, cells := 0, slots := 0, locals := 0 } (Pr D [] [.double v, .double x, .double w, .double y] ([])) (vp_Sd (fun r : UInt64 => r = mixv v x w y)) 0 0 (fun _ => False) := by
  refine Met.ofW (cc := cX0_mixed) (maxL := 10) (ret := (some .double)) (by decide) rfl ?_
  intro p e s m args below meth c s₁ B hml hv
  obtain ⟨rfl, hP, hK⟩ := hv
  have hx := B.exec
  have hb := B.bytes
  have hr := B.returns
  have hts := atoms_spec (ws := wsX0_mixed) B.pre
  have hown : s.vm.findClass RX0 = some m.cls := findClass_of_methodNamed B.named
  have hlocks := B.notSynchronized
  have hl := lv_entry ([.double v, .double x, .double w, .double y]) (n := 10) (Nat.le_of_ble_eq_true rfl)
  rw [lg_entry_eq]
  generalize (lg_sl ([.double v, .double x, .double w, .double y]) ++ List.replicate (10 - (lg_sl ([.double v, .double x, .double w, .double y])).length) Slot.unset).toArray = ls at hl ⊢
  have hl : lv_has ls 10 [(0, .double v), (2, .double x), (4, .double w), (6, .double y)] := hl
  obtain ⟨h1, h2, h3, h4, h5, h6⟩ := h
  refine lv_dload_n hx hb dX0_mixed_0 rfl (lv_at hl 0 rfl) ?_
  refine lv_dload hx hb dX0_mixed_1 (lv_at hl 2 rfl) ?_
  refine lv_dadd hx hb dX0_mixed_3 h1 ?_
  refine lv_dstore (lv' := [(8, .double (FP.dadd v w)), (0, .double v), (2, .double x), (4, .double w), (6, .double y)]) hx hb dX0_mixed_4 hl (by decide) rfl (fun ls hl => ?_)
  refine lv_dload hx hb dX0_mixed_6 (lv_at hl 0 rfl) ?_
  refine kd_0 hx hb dX0_mixed_8 ?_
  refine kd_le (tgt := 28) hx hb dX0_mixed_9 dX0_mixed_10 (by decide) (gt_ne h2) (fun c9 => absurd c9 (fun h9 => h9 h2)) (fun c9 => ?_)
  refine lv_dload_n hx hb dX0_mixed_13 rfl (lv_at hl 1 rfl) ?_
  refine lv_dload_n hx hb dX0_mixed_14 rfl (lv_at hl 2 rfl) ?_
  refine lv_dmul hx hb dX0_mixed_15 h3 ?_
  refine lv_dload hx hb dX0_mixed_16 (lv_at hl 3 rfl) ?_
  refine lv_dload hx hb dX0_mixed_18 (lv_at hl 4 rfl) ?_
  refine lv_dmul hx hb dX0_mixed_20 h4 ?_
  refine lv_dadd hx hb dX0_mixed_21 h5 ?_
  refine lv_dload hx hb dX0_mixed_22 (lv_at hl 0 rfl) ?_
  refine lv_ddiv hx hb dX0_mixed_24 h6 ?_
  refine lv_goto (tgt := 29) hx hb dX0_mixed_25 (by decide) ?_
  exact W.dret hx hb hr (fun t ht hW => ⟨_, rfl, rfl, ht⟩) (fun q hq => absurd hq List.not_mem_nil) dX0_mixed_29
set_option maxHeartbeats 4000000 in
set_option maxRecDepth 100000 in
/-- mixIn(..) -/
theorem metX0_mixIn (l : Launch) (D : va_G) (sz : Nat) (a : Nat) (w z : Int32) (li ag ac su : UInt64) (more ia ib ic : UInt64) (h1 : mixok li ag more ia) (h2 : mixok li ac more ib) (h3 : mixok li su more ic) : Met l yX0_mixIn wsX0_mixIn { frames := 1, cells := 0, slots := 0, locals := 29 } (Pm D [] [.ref a, .double more, .double ia, .double ib, .double ic] ([(a, .inr (0, [.int w, .int z, .double li, .double ag, .double ac, .double su]))]) sz) (va_Qv (fun (_ : Unit) => True) (Bm D [] (va_A ([(a, .inr (0, [.int w, .int z, .double li, .double ag, .double ac, .double su]))]) sz) ([(a, .inr (0, [.int w, .int z, .double (FP.dadd li more), .double (mixv li ag more ia), .double (mixv li ac more ib), .double (mixv li su more ic)]))])) (va_A ([(a, .inr (0, [.int w, .int z, .double li, .double ag, .double ac, .double su]))]) sz)) 0 0 (va_A ([(a, .inr (0, [.int w, .int z, .double li, .double ag, .double ac, .double su]))]) sz) := by
  refine Met.ofW (cc := cX0_mixIn) (maxL := 9) (ret := none) (by decide) rfl ?_
  intro p e s m args below meth c s₁ B hml hv
  obtain ⟨rfl, hsz, hP, hK, hD0⟩ := hv
  have hx := B.exec
  have hb := B.bytes
  have hr := B.returns
  have hts := atoms_spec (ws := wsX0_mixIn) B.pre
  have hown : s.vm.findClass RX0 = some m.cls := findClass_of_methodNamed B.named
  have hlocks := B.notSynchronized
  subst hsz
  have hD := hD0.self (sz := s.heap.size)
  generalize hAe : va_A ([(a, .inr (0, [.int w, .int z, .double li, .double ag, .double ac, .double su]))]) s.heap.size = A at hD ⊢
  have hA : ∀ q : Nat, s.heap.size ≤ q → A q := fun q h => by rw [← hAe]; exact Or.inr h
  refine kW_H (fun H hH => ?_)
  have hP : va_P D vwCl ([(a, .inr (0, [.int w, .int z, .double li, .double ag, .double ac, .double su]))]) H := by rw [hH]; exact hP
  have hS : va_S A s.heap H [] := by rw [hH]; exact va_S.rf
  have hl := lv_entry ([.ref a, .double more, .double ia, .double ib, .double ic]) (n := 9) (Nat.le_of_ble_eq_true rfl)
  rw [lg_entry_eq]
  generalize (lg_sl ([.ref a, .double more, .double ia, .double ib, .double ic]) ++ List.replicate (9 - (lg_sl ([.ref a, .double more, .double ia, .double ib, .double ic])).length) Slot.unset).toArray = ls at hl ⊢
  have hl : lv_has ls 9 [(0, .ref a), (1, .double more), (3, .double ia), (5, .double ib), (7, .double ic)] := hl
  refine lv_aload_n hx hb dX0_mixIn_0 rfl (lv_at hl 0 rfl) ?_
  refine lv_aload_n hx hb dX0_mixIn_1 rfl (lv_at hl 0 rfl) ?_
  refine va_get (D := D) (ci := 0) (v := .double li) (C := RX0) (T := TX0) (N := 6) hx hb hts (by decide +kernel) hown hK hP (0) rfl rfl 2 (by decide) (hts (.fieldLink RX0 16 "VinegarLoft$Barrel" "litres" "D") (by decide +kernel)) (fun _ h9 => h9) rfl dX0_mixIn_2 ?_
  refine lv_aload_n hx hb dX0_mixIn_5 rfl (lv_at hl 0 rfl) ?_
  refine va_get (D := D) (ci := 0) (v := .double ag) (C := RX0) (T := TX0) (N := 6) hx hb hts (by decide +kernel) hown hK hP (0) rfl rfl 3 (by decide) (hts (.fieldLink RX0 20 "VinegarLoft$Barrel" "age" "D") (by decide +kernel)) (fun _ h9 => h9) rfl dX0_mixIn_6 ?_
  refine lv_dload_n hx hb dX0_mixIn_9 rfl (lv_at hl 1 rfl) ?_
  refine lv_dload_n hx hb dX0_mixIn_10 rfl (lv_at hl 2 rfl) ?_
  refine kr_d (W.runS (As := [.double li, .double ag, .double more, .double ia]) (rest := [.ref a]) ⟨hx, hb, hml, hown, hts⟩ (metX0_mixed l D li ag more ia h1) (va_cwS 4 hts gX0_mixIn_X0_mixed rfl rfl rfl (by decide +kernel) ⟨Nat.le_of_ble_eq_true rfl, Nat.le_of_ble_eq_true rfl⟩) (prS (ws := []) (tys := []) (fun k q h => by simp at h) (hK.sub [] rfl)) rfl rfl hl.1 rfl (lv_room (Nat.le_of_ble_eq_true rfl)) dX0_mixIn_11 ⟨Nat.le_of_ble_eq_true rfl, Nat.le_of_ble_eq_true rfl⟩) ?_
  refine va_put (D := D) (ci := 0) (v := .double (mixv li ag more ia)) (ty := .double) (C := RX0) (T := TX0) (N := 6) hx hb hts (by decide +kernel) tyX0 tyX0_ok nmX0 hown hK hP hD hS (0) rfl rfl 3 (by decide) (hts (.fieldLink RX0 20 "VinegarLoft$Barrel" "age" "D") (by decide +kernel)) (fun _ h9 => h9) rfl (by decide +kernel) rfl rfl (Nat.le_of_ble_eq_true rfl) dX0_mixIn_14 (fun H locs hP hD hS => ?_)
  have hP : va_P D vwCl [(a, .inr (0, [.int w, .int z, .double li, .double (mixv li ag more ia), .double ac, .double su]))] H := hP
  have hD : va_D A [(a, .inr (0, [.int w, .int z, .double li, .double (mixv li ag more ia), .double ac, .double su]))] := hD
  refine lv_aload_n hx hb dX0_mixIn_17 rfl (lv_at hl 0 rfl) ?_
  refine lv_aload_n hx hb dX0_mixIn_18 rfl (lv_at hl 0 rfl) ?_
  refine va_get (D := D) (ci := 0) (v := .double li) (C := RX0) (T := TX0) (N := 6) hx hb hts (by decide +kernel) hown hK hP (0) rfl rfl 2 (by decide) (hts (.fieldLink RX0 16 "VinegarLoft$Barrel" "litres" "D") (by decide +kernel)) (fun _ h9 => h9) rfl dX0_mixIn_19 ?_
  refine lv_aload_n hx hb dX0_mixIn_22 rfl (lv_at hl 0 rfl) ?_
  refine va_get (D := D) (ci := 0) (v := .double ac) (C := RX0) (T := TX0) (N := 6) hx hb hts (by decide +kernel) hown hK hP (0) rfl rfl 4 (by decide) (hts (.fieldLink RX0 23 "VinegarLoft$Barrel" "acid" "D") (by decide +kernel)) (fun _ h9 => h9) rfl dX0_mixIn_23 ?_
  refine lv_dload_n hx hb dX0_mixIn_26 rfl (lv_at hl 1 rfl) ?_
  refine lv_dload hx hb dX0_mixIn_27 (lv_at hl 3 rfl) ?_
  refine kr_d (W.runS (As := [.double li, .double ac, .double more, .double ib]) (rest := [.ref a]) ⟨hx, hb, hml, hown, hts⟩ (metX0_mixed l D li ac more ib h2) (va_cwS 4 hts gX0_mixIn_X0_mixed rfl rfl rfl (by decide +kernel) ⟨Nat.le_of_ble_eq_true rfl, Nat.le_of_ble_eq_true rfl⟩) (prS (ws := []) (tys := []) (fun k q h => by simp at h) (hK.sub [] rfl)) rfl rfl hl.1 rfl (lv_room (Nat.le_of_ble_eq_true rfl)) dX0_mixIn_29 ⟨Nat.le_of_ble_eq_true rfl, Nat.le_of_ble_eq_true rfl⟩) ?_
  refine va_put (D := D) (ci := 0) (v := .double (mixv li ac more ib)) (ty := .double) (C := RX0) (T := TX0) (N := 6) hx hb hts (by decide +kernel) tyX0 tyX0_ok nmX0 hown hK hP hD hS (0) rfl rfl 4 (by decide) (hts (.fieldLink RX0 23 "VinegarLoft$Barrel" "acid" "D") (by decide +kernel)) (fun _ h9 => h9) rfl (by decide +kernel) rfl rfl (Nat.le_of_ble_eq_true rfl) dX0_mixIn_32 (fun H locs hP hD hS => ?_)
  have hP : va_P D vwCl [(a, .inr (0, [.int w, .int z, .double li, .double (mixv li ag more ia), .double (mixv li ac more ib), .double su]))] H := hP
  have hD : va_D A [(a, .inr (0, [.int w, .int z, .double li, .double (mixv li ag more ia), .double (mixv li ac more ib), .double su]))] := hD
  refine lv_aload_n hx hb dX0_mixIn_35 rfl (lv_at hl 0 rfl) ?_
  refine lv_aload_n hx hb dX0_mixIn_36 rfl (lv_at hl 0 rfl) ?_
  refine va_get (D := D) (ci := 0) (v := .double li) (C := RX0) (T := TX0) (N := 6) hx hb hts (by decide +kernel) hown hK hP (0) rfl rfl 2 (by decide) (hts (.fieldLink RX0 16 "VinegarLoft$Barrel" "litres" "D") (by decide +kernel)) (fun _ h9 => h9) rfl dX0_mixIn_37 ?_
  refine lv_aload_n hx hb dX0_mixIn_40 rfl (lv_at hl 0 rfl) ?_
  refine va_get (D := D) (ci := 0) (v := .double su) (C := RX0) (T := TX0) (N := 6) hx hb hts (by decide +kernel) hown hK hP (0) rfl rfl 5 (by decide) (hts (.fieldLink RX0 26 "VinegarLoft$Barrel" "sugar" "D") (by decide +kernel)) (fun _ h9 => h9) rfl dX0_mixIn_41 ?_
  refine lv_dload_n hx hb dX0_mixIn_44 rfl (lv_at hl 1 rfl) ?_
  refine lv_dload hx hb dX0_mixIn_45 (lv_at hl 4 rfl) ?_
  refine kr_d (W.runS (As := [.double li, .double su, .double more, .double ic]) (rest := [.ref a]) ⟨hx, hb, hml, hown, hts⟩ (metX0_mixed l D li su more ic h3) (va_cwS 4 hts gX0_mixIn_X0_mixed rfl rfl rfl (by decide +kernel) ⟨Nat.le_of_ble_eq_true rfl, Nat.le_of_ble_eq_true rfl⟩) (prS (ws := []) (tys := []) (fun k q h => by simp at h) (hK.sub [] rfl)) rfl rfl hl.1 rfl (lv_room (Nat.le_of_ble_eq_true rfl)) dX0_mixIn_47 ⟨Nat.le_of_ble_eq_true rfl, Nat.le_of_ble_eq_true rfl⟩) ?_
  refine va_put (D := D) (ci := 0) (v := .double (mixv li su more ic)) (ty := .double) (C := RX0) (T := TX0) (N := 6) hx hb hts (by decide +kernel) tyX0 tyX0_ok nmX0 hown hK hP hD hS (0) rfl rfl 5 (by decide) (hts (.fieldLink RX0 26 "VinegarLoft$Barrel" "sugar" "D") (by decide +kernel)) (fun _ h9 => h9) rfl (by decide +kernel) rfl rfl (Nat.le_of_ble_eq_true rfl) dX0_mixIn_50 (fun H locs hP hD hS => ?_)
  have hP : va_P D vwCl [(a, .inr (0, [.int w, .int z, .double li, .double (mixv li ag more ia), .double (mixv li ac more ib), .double (mixv li su more ic)]))] H := hP
  have hD : va_D A [(a, .inr (0, [.int w, .int z, .double li, .double (mixv li ag more ia), .double (mixv li ac more ib), .double (mixv li su more ic)]))] := hD
  refine lv_aload_n hx hb dX0_mixIn_53 rfl (lv_at hl 0 rfl) ?_
  refine lv_aload_n hx hb dX0_mixIn_54 rfl (lv_at hl 0 rfl) ?_
  refine va_get (D := D) (ci := 0) (v := .double li) (C := RX0) (T := TX0) (N := 6) hx hb hts (by decide +kernel) hown hK hP (0) rfl rfl 2 (by decide) (hts (.fieldLink RX0 16 "VinegarLoft$Barrel" "litres" "D") (by decide +kernel)) (fun _ h9 => h9) rfl dX0_mixIn_55 ?_
  refine lv_dload_n hx hb dX0_mixIn_58 rfl (lv_at hl 1 rfl) ?_
  refine lv_dadd hx hb dX0_mixIn_59 h1.1 ?_
  refine va_put (D := D) (ci := 0) (v := .double (FP.dadd li more)) (ty := .double) (C := RX0) (T := TX0) (N := 6) hx hb hts (by decide +kernel) tyX0 tyX0_ok nmX0 hown hK hP hD hS (0) rfl rfl 2 (by decide) (hts (.fieldLink RX0 16 "VinegarLoft$Barrel" "litres" "D") (by decide +kernel)) (fun _ h9 => h9) rfl (by decide +kernel) rfl rfl (Nat.le_of_ble_eq_true rfl) dX0_mixIn_60 (fun H locs hP hD hS => ?_)
  have hP : va_P D vwCl [(a, .inr (0, [.int w, .int z, .double (FP.dadd li more), .double (mixv li ag more ia), .double (mixv li ac more ib), .double (mixv li su more ic)]))] H := hP
  have hD : va_D A [(a, .inr (0, [.int w, .int z, .double (FP.dadd li more), .double (mixv li ag more ia), .double (mixv li ac more ib), .double (mixv li su more ic)]))] := hD
  exact W.vret hx hb hr (fun t ht hW => ⟨⟨(), rfl, trivial, by rw [ht]; exact hP, va_K.moved hW.alike hK, hD⟩, hS.F ht⟩) hS.2.2 dX0_mixIn_63
set_option maxHeartbeats 4000000 in
set_option maxRecDepth 100000 in
/-- takeOut(less) -/
theorem metX0_takeOut (l : Launch) (D : va_G) (sz : Nat) (a : Nat) (w z : Int32) (li ag ac su : UInt64) (less : UInt64) (h1 : vf_n64 (FP.dsub li less)) (h2 : FP.dcmp (FP.dsub li less) 0 ≠ none) : Met l yX0_takeOut wsX0_takeOut { frames := 1, cells := 0, slots := 0, locals := 20 } (Pm D [] [.ref a, .double less] ([(a, .inr (0, [.int w, .int z, .double li, .double ag, .double ac, .double su]))]) sz) (va_Qv (fun (_ : Unit) => True) (Bm D [] (va_A ([(a, .inr (0, [.int w, .int z, .double li, .double ag, .double ac, .double su]))]) sz) ([(a, tkE w z li ag ac su less)])) (va_A ([(a, .inr (0, [.int w, .int z, .double li, .double ag, .double ac, .double su]))]) sz)) 0 0 (va_A ([(a, .inr (0, [.int w, .int z, .double li, .double ag, .double ac, .double su]))]) sz) := by
  refine Met.ofW (cc := cX0_takeOut) (maxL := 3) (ret := none) (by decide) rfl ?_
  intro p e s m args below meth c s₁ B hml hv
  obtain ⟨rfl, hsz, hP, hK, hD0⟩ := hv
  have hx := B.exec
  have hb := B.bytes
  have hr := B.returns
  have hts := atoms_spec (ws := wsX0_takeOut) B.pre
  have hown : s.vm.findClass RX0 = some m.cls := findClass_of_methodNamed B.named
  have hlocks := B.notSynchronized
  subst hsz
  have hD := hD0.self (sz := s.heap.size)
  generalize hAe : va_A ([(a, .inr (0, [.int w, .int z, .double li, .double ag, .double ac, .double su]))]) s.heap.size = A at hD ⊢
  have hA : ∀ q : Nat, s.heap.size ≤ q → A q := fun q h => by rw [← hAe]; exact Or.inr h
  refine kW_H (fun H hH => ?_)
  have hP : va_P D vwCl ([(a, .inr (0, [.int w, .int z, .double li, .double ag, .double ac, .double su]))]) H := by rw [hH]; exact hP
  have hS : va_S A s.heap H [] := by rw [hH]; exact va_S.rf
  have hl := lv_entry ([.ref a, .double less]) (n := 3) (Nat.le_of_ble_eq_true rfl)
  rw [lg_entry_eq]
  generalize (lg_sl ([.ref a, .double less]) ++ List.replicate (3 - (lg_sl ([.ref a, .double less])).length) Slot.unset).toArray = ls at hl ⊢
  have hl : lv_has ls 3 [(0, .ref a), (1, .double less)] := hl
  refine lv_aload_n hx hb dX0_takeOut_0 rfl (lv_at hl 0 rfl) ?_
  refine lv_aload_n hx hb dX0_takeOut_1 rfl (lv_at hl 0 rfl) ?_
  refine va_get (D := D) (ci := 0) (v := .double li) (C := RX0) (T := TX0) (N := 6) hx hb hts (by decide +kernel) hown hK hP (0) rfl rfl 2 (by decide) (hts (.fieldLink RX0 16 "VinegarLoft$Barrel" "litres" "D") (by decide +kernel)) (fun _ h9 => h9) rfl dX0_takeOut_2 ?_
  refine lv_dload_n hx hb dX0_takeOut_5 rfl (lv_at hl 1 rfl) ?_
  refine lv_dsub hx hb dX0_takeOut_6 h1 ?_
  refine va_put (D := D) (ci := 0) (v := .double (FP.dsub li less)) (ty := .double) (C := RX0) (T := TX0) (N := 6) hx hb hts (by decide +kernel) tyX0 tyX0_ok nmX0 hown hK hP hD hS (0) rfl rfl 2 (by decide) (hts (.fieldLink RX0 16 "VinegarLoft$Barrel" "litres" "D") (by decide +kernel)) (fun _ h9 => h9) rfl (by decide +kernel) rfl rfl (Nat.le_of_ble_eq_true rfl) dX0_takeOut_7 (fun H locs hP hD hS => ?_)
  have hP : va_P D vwCl [(a, .inr (0, [.int w, .int z, .double (FP.dsub li less), .double ag, .double ac, .double su]))] H := hP
  have hD : va_D A [(a, .inr (0, [.int w, .int z, .double (FP.dsub li less), .double ag, .double ac, .double su]))] := hD
  refine lv_aload_n hx hb dX0_takeOut_10 rfl (lv_at hl 0 rfl) ?_
  refine va_get (D := D) (ci := 0) (v := .double (FP.dsub li less)) (C := RX0) (T := TX0) (N := 6) hx hb hts (by decide +kernel) hown hK hP (0) rfl rfl 2 (by decide) (hts (.fieldLink RX0 16 "VinegarLoft$Barrel" "litres" "D") (by decide +kernel)) (fun _ h9 => h9) rfl dX0_takeOut_11 ?_
  refine kd_0 hx hb dX0_takeOut_14 ?_
  refine kd_gt (tgt := 23) hx hb dX0_takeOut_15 dX0_takeOut_16 (by decide) h2 (fun c15 => ?_) (fun c15 => ?_)
  · have hP : va_P D vwCl ([(a, tkE w z li ag ac su less)]) H := by unfold tkE; rw [if_pos c15]; exact hP
    have hD : va_D A ([(a, tkE w z li ag ac su less)]) := by unfold tkE; rw [if_pos c15]; exact hD
    exact W.vret hx hb hr (fun t ht hW => ⟨⟨(), rfl, trivial, by rw [ht]; exact hP, va_K.moved hW.alike hK, hD⟩, hS.F ht⟩) hS.2.2 dX0_takeOut_23
  · refine lv_aload_n hx hb dX0_takeOut_19 rfl (lv_at hl 0 rfl) ?_
    refine kc_v (w1 := []) (w3 := []) (va_runV (As := []) (rest := []) ⟨hx, hb, hml, hown, hts⟩ (metX0_clear l D H.size a w z (FP.dsub li less) ag ac su) (cwV 0 hts gX0_takeOut_X0_clear rfl rfl rfl (by decide +kernel) ⟨Nat.le_of_ble_eq_true rfl, Nat.le_of_ble_eq_true rfl⟩) (pmV 0 0 RX0 TX0 6 rfl rfl hP (hK.sub [] rfl) hD) rfl rfl hl.1 rfl (lv_room (Nat.le_of_ble_eq_true rfl)) dX0_takeOut_20 ⟨Nat.le_of_ble_eq_true rfl, Nat.le_of_ble_eq_true rfl⟩) hP hD hS hA (fun H locs hP hD hS => ?_)
    have hP : va_P D vwCl [(a, .inr (0, [.int w, .int z, .double 0, .double 0, .double 0, .double 0]))] H := hP
    have hD : va_D A [(a, .inr (0, [.int w, .int z, .double 0, .double 0, .double 0, .double 0]))] := hD
    have hP : va_P D vwCl ([(a, tkE w z li ag ac su less)]) H := by unfold tkE; rw [if_neg c15]; exact hP
    have hD : va_D A ([(a, tkE w z li ag ac su less)]) := by unfold tkE; rw [if_neg c15]; exact hD
    exact W.vret hx hb hr (fun t ht hW => ⟨⟨(), rfl, trivial, by rw [ht]; exact hP, va_K.moved hW.alike hK, hD⟩, hS.F ht⟩) hS.2.2 dX0_takeOut_23
set_option maxHeartbeats 4000000 in
set_option maxRecDepth 100000 in
/-- share(wood) -/
theorem metX0_share (l : Launch) (D : va_G) (k : Int32)  : Met l yX0_share wsX0_share { frames := 0, cells := 0, slots := 0, locals := 0 } (Pr D [] [.int k] ([])) (vp_Sd (fun r : UInt64 => r = shv k)) 0 0 (fun _ => False) := by
  refine Met.ofW (cc := cX0_share) (maxL := 1) (ret := (some .double)) (by decide) rfl ?_
  intro p e s m args below meth c s₁ B hml hv
  obtain ⟨rfl, hP, hK⟩ := hv
  have hx := B.exec
  have hb := B.bytes
  have hr := B.returns
  have hts := atoms_spec (ws := wsX0_share) B.pre
  have hown : s.vm.findClass RX0 = some m.cls := findClass_of_methodNamed B.named
  have hlocks := B.notSynchronized
  have hl := lv_entry ([.int k]) (n := 1) (Nat.le_of_ble_eq_true rfl)
  rw [lg_entry_eq]
  generalize (lg_sl ([.int k]) ++ List.replicate (1 - (lg_sl ([.int k])).length) Slot.unset).toArray = ls at hl ⊢
  have hl : lv_has ls 1 [(0, .int k)] := hl
  refine lv_iload_n hx hb dX0_share_0 rfl (lv_at hl 0 rfl) ?_
  by_cases e0 : k = 0
  · subst e0
    refine lv_tableIn (off := 27) (tgt := 28) hx hb dX0_share_1 (by decide) (by decide) (by decide) (by decide) ?_
    refine lv_ldc2d hx hb hown (hts (.constantDouble RX0 71 4581421828931458171) (by decide +kernel)) dX0_share_28 ?_
    exact W.dret hx hb hr (fun t ht hW => ⟨_, rfl, rfl, ht⟩) (fun q hq => absurd hq List.not_mem_nil) dX0_share_31
  by_cases e1 : k = 1
  · subst e1
    refine lv_tableIn (off := 31) (tgt := 32) hx hb dX0_share_1 (by decide) (by decide) (by decide) (by decide) ?_
    refine lv_ldc2d hx hb hown (hts (.constantDouble RX0 73 4584304132692975288) (by decide +kernel)) dX0_share_32 ?_
    exact W.dret hx hb hr (fun t ht hW => ⟨_, rfl, by unfold shv; rfl, ht⟩) (fun q hq => absurd hq List.not_mem_nil) dX0_share_35
  by_cases e2 : k = 2
  · subst e2
    refine lv_tableIn (off := 35) (tgt := 36) hx hb dX0_share_1 (by decide) (by decide) (by decide) (by decide) ?_
    refine lv_ldc2d hx hb hown (hts (.constantDouble RX0 75 4585204852618449388) (by decide +kernel)) dX0_share_36 ?_
    exact W.dret hx hb hr (fun t ht hW => ⟨_, rfl, by unfold shv; rfl, ht⟩) (fun q hq => absurd hq List.not_mem_nil) dX0_share_39
  refine lv_tableOut (tgt := 40) hx hb dX0_share_1 (by_contra_sw e0 e1 e2) (by decide) ?_
  refine lv_ldc2d hx hb hown (hts (.constantDouble RX0 77 4582862980812216730) (by decide +kernel)) dX0_share_40 ?_
  exact W.dret hx hb hr (fun t ht hW => ⟨_, rfl, by unfold shv; rw [if_neg e0, if_neg e1, if_neg e2], ht⟩) (fun q hq => absurd hq List.not_mem_nil) dX0_share_43
set_option maxHeartbeats 4000000 in
set_option maxRecDepth 100000 in
/-- sour() -/
theorem metX0_sour (l : Launch) (D : va_G) (sz : Nat) (a : Nat) (w z : Int32) (li ag ac su : UInt64) (h : sook ac su) : Met l yX0_sour wsX0_sour { frames := 0, cells := 0, slots := 0, locals := 0 } (Pm D [] [.ref a] ([(a, .inr (0, [.int w, .int z, .double li, .double ag, .double ac, .double su]))]) sz) (va_Qv (fun (_ : Unit) => True) (Bm D [] (va_A ([(a, .inr (0, [.int w, .int z, .double li, .double ag, .double ac, .double su]))]) sz) ([(a, .inr (0, [.int w, .int z, .double li, .double ag, .double (soA ac su), .double (soS ac su)]))])) (va_A ([(a, .inr (0, [.int w, .int z, .double li, .double ag, .double ac, .double su]))]) sz)) 0 0 (va_A ([(a, .inr (0, [.int w, .int z, .double li, .double ag, .double ac, .double su]))]) sz) := by
  refine Met.ofW (cc := cX0_sour) (maxL := 3) (ret := none) (by decide) rfl ?_
  intro p e s m args below meth c s₁ B hml hv
  obtain ⟨rfl, hsz, hP, hK, hD0⟩ := hv
  have hx := B.exec
  have hb := B.bytes
  have hr := B.returns
  have hts := atoms_spec (ws := wsX0_sour) B.pre
  have hown : s.vm.findClass RX0 = some m.cls := findClass_of_methodNamed B.named
  have hlocks := B.notSynchronized
  subst hsz
  have hD := hD0.self (sz := s.heap.size)
  generalize hAe : va_A ([(a, .inr (0, [.int w, .int z, .double li, .double ag, .double ac, .double su]))]) s.heap.size = A at hD ⊢
  have hA : ∀ q : Nat, s.heap.size ≤ q → A q := fun q h => by rw [← hAe]; exact Or.inr h
  refine kW_H (fun H hH => ?_)
  have hP : va_P D vwCl ([(a, .inr (0, [.int w, .int z, .double li, .double ag, .double ac, .double su]))]) H := by rw [hH]; exact hP
  have hS : va_S A s.heap H [] := by rw [hH]; exact va_S.rf
  have hl := lv_entry ([.ref a]) (n := 3) (Nat.le_of_ble_eq_true rfl)
  rw [lg_entry_eq]
  generalize (lg_sl ([.ref a]) ++ List.replicate (3 - (lg_sl ([.ref a])).length) Slot.unset).toArray = ls at hl ⊢
  have hl : lv_has ls 3 [(0, .ref a)] := hl
  obtain ⟨h1, h2, h3, h4, h5, h6⟩ := h
  refine lv_aload_n hx hb dX0_sour_0 rfl (lv_at hl 0 rfl) ?_
  refine va_get (D := D) (ci := 0) (v := .double su) (C := RX0) (T := TX0) (N := 6) hx hb hts (by decide +kernel) hown hK hP (0) rfl rfl 5 (by decide) (hts (.fieldLink RX0 26 "VinegarLoft$Barrel" "sugar" "D") (by decide +kernel)) (fun _ h9 => h9) rfl dX0_sour_1 ?_
  refine lv_ldc2d hx hb hown (hts (.constantDouble RX0 53 4626322717216342016) (by decide +kernel)) dX0_sour_4 ?_
  refine kd_le (tgt := 49) hx hb dX0_sour_7 dX0_sour_8 (by decide) h1 (fun c7 => ?_) (fun c7 => ?_)
  · refine lv_aload_n hx hb dX0_sour_49 rfl (lv_at hl 0 rfl) ?_
    refine va_get (D := D) (ci := 0) (v := .double ac) (C := RX0) (T := TX0) (N := 6) hx hb hts (by decide +kernel) hown hK hP (0) rfl rfl 4 (by decide) (hts (.fieldLink RX0 23 "VinegarLoft$Barrel" "acid" "D") (by decide +kernel)) (fun _ h9 => h9) rfl dX0_sour_50 ?_
    refine lv_ldc2d hx hb hown (hts (.constantDouble RX0 61 4591870180066957722) (by decide +kernel)) dX0_sour_53 ?_
    refine lv_dadd hx hb dX0_sour_56 h5 ?_
    refine lv_dstore_n (lv' := [(1, .double (FP.dadd ac 4591870180066957722)), (0, .ref a)]) hx hb dX0_sour_57 rfl hl (by decide) rfl (fun ls hl => ?_)
    refine lv_aload_n hx hb dX0_sour_58 rfl (lv_at hl 1 rfl) ?_
    refine lv_dload_n hx hb dX0_sour_59 rfl (lv_at hl 0 rfl) ?_
    refine lv_ldc2d hx hb hown (hts (.constantDouble RX0 63 4622945017495814144) (by decide +kernel)) dX0_sour_60 ?_
    refine kd_le (tgt := 73) hx hb dX0_sour_63 dX0_sour_64 (by decide) h6 (fun c63 => ?_) (fun c63 => ?_)
    · refine lv_dload_n hx hb dX0_sour_73 rfl (lv_at hl 0 rfl) ?_
      refine va_put (D := D) (ci := 0) (v := .double (FP.dadd ac 4591870180066957722)) (ty := .double) (C := RX0) (T := TX0) (N := 6) hx hb hts (by decide +kernel) tyX0 tyX0_ok nmX0 hown hK hP hD hS (0) rfl rfl 4 (by decide) (hts (.fieldLink RX0 23 "VinegarLoft$Barrel" "acid" "D") (by decide +kernel)) (fun _ h9 => h9) rfl (by decide +kernel) rfl rfl (Nat.le_of_ble_eq_true rfl) dX0_sour_74 (fun H locs hP hD hS => ?_)
      have hP : va_P D vwCl [(a, .inr (0, [.int w, .int z, .double li, .double ag, .double (FP.dadd ac 4591870180066957722), .double su]))] H := hP
      have hD : va_D A [(a, .inr (0, [.int w, .int z, .double li, .double ag, .double (FP.dadd ac 4591870180066957722), .double su]))] := hD
      have hP : va_P D vwCl ([(a, .inr (0, [.int w, .int z, .double li, .double ag, .double (soA ac su), .double (soS ac su)]))]) H := by unfold soA soS; have hn : ¬ (FP.dcmp su 4626322717216342016 = some .gt ∧ FP.dcmp ac 4620693217682128896 = some .lt) := fun h9 => c7 h9.1; rw [if_neg hn, if_neg hn, if_neg c63]; exact hP
      have hD : va_D A ([(a, .inr (0, [.int w, .int z, .double li, .double ag, .double (soA ac su), .double (soS ac su)]))]) := by unfold soA soS; have hn : ¬ (FP.dcmp su 4626322717216342016 = some .gt ∧ FP.dcmp ac 4620693217682128896 = some .lt) := fun h9 => c7 h9.1; rw [if_neg hn, if_neg hn, if_neg c63]; exact hD
      exact W.vret hx hb hr (fun t ht hW => ⟨⟨(), rfl, trivial, by rw [ht]; exact hP, va_K.moved hW.alike hK, hD⟩, hS.F ht⟩) hS.2.2 dX0_sour_77
    · refine lv_ldc2d hx hb hown (hts (.constantDouble RX0 63 4622945017495814144) (by decide +kernel)) dX0_sour_67 ?_
      refine lv_goto (tgt := 74) hx hb dX0_sour_70 (by decide) ?_
      refine va_put (D := D) (ci := 0) (v := .double 4622945017495814144) (ty := .double) (C := RX0) (T := TX0) (N := 6) hx hb hts (by decide +kernel) tyX0 tyX0_ok nmX0 hown hK hP hD hS (0) rfl rfl 4 (by decide) (hts (.fieldLink RX0 23 "VinegarLoft$Barrel" "acid" "D") (by decide +kernel)) (fun _ h9 => h9) rfl (by decide +kernel) rfl rfl (Nat.le_of_ble_eq_true rfl) dX0_sour_74 (fun H locs hP hD hS => ?_)
      have hP : va_P D vwCl [(a, .inr (0, [.int w, .int z, .double li, .double ag, .double 4622945017495814144, .double su]))] H := hP
      have hD : va_D A [(a, .inr (0, [.int w, .int z, .double li, .double ag, .double 4622945017495814144, .double su]))] := hD
      have hP : va_P D vwCl ([(a, .inr (0, [.int w, .int z, .double li, .double ag, .double (soA ac su), .double (soS ac su)]))]) H := by unfold soA soS; have hn : ¬ (FP.dcmp su 4626322717216342016 = some .gt ∧ FP.dcmp ac 4620693217682128896 = some .lt) := fun h9 => c7 h9.1; rw [if_neg hn, if_neg hn, if_pos c63]; exact hP
      have hD : va_D A ([(a, .inr (0, [.int w, .int z, .double li, .double ag, .double (soA ac su), .double (soS ac su)]))]) := by unfold soA soS; have hn : ¬ (FP.dcmp su 4626322717216342016 = some .gt ∧ FP.dcmp ac 4620693217682128896 = some .lt) := fun h9 => c7 h9.1; rw [if_neg hn, if_neg hn, if_pos c63]; exact hD
      exact W.vret hx hb hr (fun t ht hW => ⟨⟨(), rfl, trivial, by rw [ht]; exact hP, va_K.moved hW.alike hK, hD⟩, hS.F ht⟩) hS.2.2 dX0_sour_77
  · refine lv_aload_n hx hb dX0_sour_11 rfl (lv_at hl 0 rfl) ?_
    refine va_get (D := D) (ci := 0) (v := .double ac) (C := RX0) (T := TX0) (N := 6) hx hb hts (by decide +kernel) hown hK hP (0) rfl rfl 4 (by decide) (hts (.fieldLink RX0 23 "VinegarLoft$Barrel" "acid" "D") (by decide +kernel)) (fun _ h9 => h9) rfl dX0_sour_12 ?_
    refine lv_ldc2d hx hb hown (hts (.constantDouble RX0 55 4620693217682128896) (by decide +kernel)) dX0_sour_15 ?_
    refine kd_ge (tgt := 49) hx hb dX0_sour_18 dX0_sour_19 (by decide) h2 (fun c18 => ?_) (fun c18 => ?_)
    · refine lv_aload_n hx hb dX0_sour_49 rfl (lv_at hl 0 rfl) ?_
      refine va_get (D := D) (ci := 0) (v := .double ac) (C := RX0) (T := TX0) (N := 6) hx hb hts (by decide +kernel) hown hK hP (0) rfl rfl 4 (by decide) (hts (.fieldLink RX0 23 "VinegarLoft$Barrel" "acid" "D") (by decide +kernel)) (fun _ h9 => h9) rfl dX0_sour_50 ?_
      refine lv_ldc2d hx hb hown (hts (.constantDouble RX0 61 4591870180066957722) (by decide +kernel)) dX0_sour_53 ?_
      refine lv_dadd hx hb dX0_sour_56 h5 ?_
      refine lv_dstore_n (lv' := [(1, .double (FP.dadd ac 4591870180066957722)), (0, .ref a)]) hx hb dX0_sour_57 rfl hl (by decide) rfl (fun ls hl => ?_)
      refine lv_aload_n hx hb dX0_sour_58 rfl (lv_at hl 1 rfl) ?_
      refine lv_dload_n hx hb dX0_sour_59 rfl (lv_at hl 0 rfl) ?_
      refine lv_ldc2d hx hb hown (hts (.constantDouble RX0 63 4622945017495814144) (by decide +kernel)) dX0_sour_60 ?_
      refine kd_le (tgt := 73) hx hb dX0_sour_63 dX0_sour_64 (by decide) h6 (fun c63 => ?_) (fun c63 => ?_)
      · refine lv_dload_n hx hb dX0_sour_73 rfl (lv_at hl 0 rfl) ?_
        refine va_put (D := D) (ci := 0) (v := .double (FP.dadd ac 4591870180066957722)) (ty := .double) (C := RX0) (T := TX0) (N := 6) hx hb hts (by decide +kernel) tyX0 tyX0_ok nmX0 hown hK hP hD hS (0) rfl rfl 4 (by decide) (hts (.fieldLink RX0 23 "VinegarLoft$Barrel" "acid" "D") (by decide +kernel)) (fun _ h9 => h9) rfl (by decide +kernel) rfl rfl (Nat.le_of_ble_eq_true rfl) dX0_sour_74 (fun H locs hP hD hS => ?_)
        have hP : va_P D vwCl [(a, .inr (0, [.int w, .int z, .double li, .double ag, .double (FP.dadd ac 4591870180066957722), .double su]))] H := hP
        have hD : va_D A [(a, .inr (0, [.int w, .int z, .double li, .double ag, .double (FP.dadd ac 4591870180066957722), .double su]))] := hD
        have hP : va_P D vwCl ([(a, .inr (0, [.int w, .int z, .double li, .double ag, .double (soA ac su), .double (soS ac su)]))]) H := by unfold soA soS; have hn : ¬ (FP.dcmp su 4626322717216342016 = some .gt ∧ FP.dcmp ac 4620693217682128896 = some .lt) := fun h9 => c18 h9.2; rw [if_neg hn, if_neg hn, if_neg c63]; exact hP
        have hD : va_D A ([(a, .inr (0, [.int w, .int z, .double li, .double ag, .double (soA ac su), .double (soS ac su)]))]) := by unfold soA soS; have hn : ¬ (FP.dcmp su 4626322717216342016 = some .gt ∧ FP.dcmp ac 4620693217682128896 = some .lt) := fun h9 => c18 h9.2; rw [if_neg hn, if_neg hn, if_neg c63]; exact hD
        exact W.vret hx hb hr (fun t ht hW => ⟨⟨(), rfl, trivial, by rw [ht]; exact hP, va_K.moved hW.alike hK, hD⟩, hS.F ht⟩) hS.2.2 dX0_sour_77
      · refine lv_ldc2d hx hb hown (hts (.constantDouble RX0 63 4622945017495814144) (by decide +kernel)) dX0_sour_67 ?_
        refine lv_goto (tgt := 74) hx hb dX0_sour_70 (by decide) ?_
        refine va_put (D := D) (ci := 0) (v := .double 4622945017495814144) (ty := .double) (C := RX0) (T := TX0) (N := 6) hx hb hts (by decide +kernel) tyX0 tyX0_ok nmX0 hown hK hP hD hS (0) rfl rfl 4 (by decide) (hts (.fieldLink RX0 23 "VinegarLoft$Barrel" "acid" "D") (by decide +kernel)) (fun _ h9 => h9) rfl (by decide +kernel) rfl rfl (Nat.le_of_ble_eq_true rfl) dX0_sour_74 (fun H locs hP hD hS => ?_)
        have hP : va_P D vwCl [(a, .inr (0, [.int w, .int z, .double li, .double ag, .double 4622945017495814144, .double su]))] H := hP
        have hD : va_D A [(a, .inr (0, [.int w, .int z, .double li, .double ag, .double 4622945017495814144, .double su]))] := hD
        have hP : va_P D vwCl ([(a, .inr (0, [.int w, .int z, .double li, .double ag, .double (soA ac su), .double (soS ac su)]))]) H := by unfold soA soS; have hn : ¬ (FP.dcmp su 4626322717216342016 = some .gt ∧ FP.dcmp ac 4620693217682128896 = some .lt) := fun h9 => c18 h9.2; rw [if_neg hn, if_neg hn, if_pos c63]; exact hP
        have hD : va_D A ([(a, .inr (0, [.int w, .int z, .double li, .double ag, .double (soA ac su), .double (soS ac su)]))]) := by unfold soA soS; have hn : ¬ (FP.dcmp su 4626322717216342016 = some .gt ∧ FP.dcmp ac 4620693217682128896 = some .lt) := fun h9 => c18 h9.2; rw [if_neg hn, if_neg hn, if_pos c63]; exact hD
        exact W.vret hx hb hr (fun t ht hW => ⟨⟨(), rfl, trivial, by rw [ht]; exact hP, va_K.moved hW.alike hK, hD⟩, hS.F ht⟩) hS.2.2 dX0_sour_77
    · refine lv_aload_n hx hb dX0_sour_22 rfl (lv_at hl 0 rfl) ?_
      refine lv_aload_n hx hb dX0_sour_23 rfl (lv_at hl 0 rfl) ?_
      refine va_get (D := D) (ci := 0) (v := .double ac) (C := RX0) (T := TX0) (N := 6) hx hb hts (by decide +kernel) hown hK hP (0) rfl rfl 4 (by decide) (hts (.fieldLink RX0 23 "VinegarLoft$Barrel" "acid" "D") (by decide +kernel)) (fun _ h9 => h9) rfl dX0_sour_24 ?_
      refine lv_ldc2d hx hb hown (hts (.constantDouble RX0 57 4603579539098121011) (by decide +kernel)) dX0_sour_27 ?_
      refine lv_dadd hx hb dX0_sour_30 h3 ?_
      refine va_put (D := D) (ci := 0) (v := .double (FP.dadd ac 4603579539098121011)) (ty := .double) (C := RX0) (T := TX0) (N := 6) hx hb hts (by decide +kernel) tyX0 tyX0_ok nmX0 hown hK hP hD hS (0) rfl rfl 4 (by decide) (hts (.fieldLink RX0 23 "VinegarLoft$Barrel" "acid" "D") (by decide +kernel)) (fun _ h9 => h9) rfl (by decide +kernel) rfl rfl (Nat.le_of_ble_eq_true rfl) dX0_sour_31 (fun H locs hP hD hS => ?_)
      have hP : va_P D vwCl [(a, .inr (0, [.int w, .int z, .double li, .double ag, .double (FP.dadd ac 4603579539098121011), .double su]))] H := hP
      have hD : va_D A [(a, .inr (0, [.int w, .int z, .double li, .double ag, .double (FP.dadd ac 4603579539098121011), .double su]))] := hD
      refine lv_aload_n hx hb dX0_sour_34 rfl (lv_at hl 0 rfl) ?_
      refine lv_aload_n hx hb dX0_sour_35 rfl (lv_at hl 0 rfl) ?_
      refine va_get (D := D) (ci := 0) (v := .double su) (C := RX0) (T := TX0) (N := 6) hx hb hts (by decide +kernel) hown hK hP (0) rfl rfl 5 (by decide) (hts (.fieldLink RX0 26 "VinegarLoft$Barrel" "sugar" "D") (by decide +kernel)) (fun _ h9 => h9) rfl dX0_sour_36 ?_
      refine lv_ldc2d hx hb hown (hts (.constantDouble RX0 59 4605380978949069210) (by decide +kernel)) dX0_sour_39 ?_
      refine lv_dsub hx hb dX0_sour_42 h4 ?_
      refine va_put (D := D) (ci := 0) (v := .double (FP.dsub su 4605380978949069210)) (ty := .double) (C := RX0) (T := TX0) (N := 6) hx hb hts (by decide +kernel) tyX0 tyX0_ok nmX0 hown hK hP hD hS (0) rfl rfl 5 (by decide) (hts (.fieldLink RX0 26 "VinegarLoft$Barrel" "sugar" "D") (by decide +kernel)) (fun _ h9 => h9) rfl (by decide +kernel) rfl rfl (Nat.le_of_ble_eq_true rfl) dX0_sour_43 (fun H locs hP hD hS => ?_)
      have hP : va_P D vwCl [(a, .inr (0, [.int w, .int z, .double li, .double ag, .double (FP.dadd ac 4603579539098121011), .double (FP.dsub su 4605380978949069210)]))] H := hP
      have hD : va_D A [(a, .inr (0, [.int w, .int z, .double li, .double ag, .double (FP.dadd ac 4603579539098121011), .double (FP.dsub su 4605380978949069210)]))] := hD
      refine lv_goto (tgt := 77) hx hb dX0_sour_46 (by decide) ?_
      have hP : va_P D vwCl ([(a, .inr (0, [.int w, .int z, .double li, .double ag, .double (soA ac su), .double (soS ac su)]))]) H := by unfold soA soS; rw [if_pos ⟨c7, c18⟩, if_pos ⟨c7, c18⟩]; exact hP
      have hD : va_D A ([(a, .inr (0, [.int w, .int z, .double li, .double ag, .double (soA ac su), .double (soS ac su)]))]) := by unfold soA soS; rw [if_pos ⟨c7, c18⟩, if_pos ⟨c7, c18⟩]; exact hD
      exact W.vret hx hb hr (fun t ht hW => ⟨⟨(), rfl, trivial, by rw [ht]; exact hP, va_K.moved hW.alike hK, hD⟩, hS.F ht⟩) hS.2.2 dX0_sour_77
set_option maxHeartbeats 4000000 in
set_option maxRecDepth 100000 in
/-- spendYear(draught), of one that is not empty -/
theorem metX0_spendYear (l : Launch) (D : va_G) (sz : Nat) (a : Nat) (w z : Int32) (li ag ac su : UInt64) (dr : UInt64) (hy : yearok w li ag ac su dr) : Met l yX0_spendYear wsX0_spendYear { frames := 2, cells := 0, slots := 0, locals := 42 } (Pm D [] [.ref a, .double dr] ([(a, .inr (0, [.int w, .int z, .double li, .double ag, .double ac, .double su]))]) sz) (va_Qd (fun (r : UInt64) (_ : Unit) => r = losv w li dr) (Bm D [] (va_A ([(a, .inr (0, [.int w, .int z, .double li, .double ag, .double ac, .double su]))]) sz) ([(a, .inr (0, [.int w, .int z, .double (FP.dsub li (losv w li dr)), .double (FP.dadd ag 4607182418800017408), .double (soA ac (thick su li (FP.dsub li (losv w li dr)))), .double (soS ac (thick su li (FP.dsub li (losv w li dr))))]))])) (va_A ([(a, .inr (0, [.int w, .int z, .double li, .double ag, .double ac, .double su]))]) sz)) 0 0 (va_A ([(a, .inr (0, [.int w, .int z, .double li, .double ag, .double ac, .double su]))]) sz) := by
  refine Met.ofW (cc := cX0_spendYear) (maxL := 9) (ret := (some .double)) (by decide) rfl ?_
  intro p e s m args below meth c s₁ B hml hv
  obtain ⟨rfl, hsz, hP, hK, hD0⟩ := hv
  have hx := B.exec
  have hb := B.bytes
  have hr := B.returns
  have hts := atoms_spec (ws := wsX0_spendYear) B.pre
  have hown : s.vm.findClass RX0 = some m.cls := findClass_of_methodNamed B.named
  have hlocks := B.notSynchronized
  subst hsz
  have hD := hD0.self (sz := s.heap.size)
  generalize hAe : va_A ([(a, .inr (0, [.int w, .int z, .double li, .double ag, .double ac, .double su]))]) s.heap.size = A at hD ⊢
  have hA : ∀ q : Nat, s.heap.size ≤ q → A q := fun q h => by rw [← hAe]; exact Or.inr h
  refine kW_H (fun H hH => ?_)
  have hP : va_P D vwCl ([(a, .inr (0, [.int w, .int z, .double li, .double ag, .double ac, .double su]))]) H := by rw [hH]; exact hP
  have hS : va_S A s.heap H [] := by rw [hH]; exact va_S.rf
  have hl := lv_entry ([.ref a, .double dr]) (n := 9) (Nat.le_of_ble_eq_true rfl)
  rw [lg_entry_eq]
  generalize (lg_sl ([.ref a, .double dr]) ++ List.replicate (9 - (lg_sl ([.ref a, .double dr])).length) Slot.unset).toArray = ls at hl ⊢
  have hl : lv_has ls 9 [(0, .ref a), (1, .double dr)] := hl
  obtain ⟨y1, y2, y3, y4, y5, y6, y7, y8, y9⟩ := hy
  obtain ⟨be, hbe⟩ : ∃ be, FP.dsub li (losv w li dr) = be := ⟨_, rfl⟩
  refine lv_aload_n hx hb dX0_spendYear_0 rfl (lv_at hl 0 rfl) ?_
  refine va_get (D := D) (ci := 0) (v := .double li) (C := RX0) (T := TX0) (N := 6) hx hb hts (by decide +kernel) hown hK hP (0) rfl rfl 2 (by decide) (hts (.fieldLink RX0 16 "VinegarLoft$Barrel" "litres" "D") (by decide +kernel)) (fun _ h9 => h9) rfl dX0_spendYear_1 ?_
  refine lv_dstore_n (lv' := [(3, .double li), (0, .ref a), (1, .double dr)]) hx hb dX0_spendYear_4 rfl hl (by decide) rfl (fun ls hl => ?_)
  refine lv_aload_n hx hb dX0_spendYear_5 rfl (lv_at hl 1 rfl) ?_
  refine va_get (D := D) (ci := 0) (v := .double li) (C := RX0) (T := TX0) (N := 6) hx hb hts (by decide +kernel) hown hK hP (0) rfl rfl 2 (by decide) (hts (.fieldLink RX0 16 "VinegarLoft$Barrel" "litres" "D") (by decide +kernel)) (fun _ h9 => h9) rfl dX0_spendYear_6 ?_
  refine lv_aload_n hx hb dX0_spendYear_9 rfl (lv_at hl 1 rfl) ?_
  refine va_get (D := D) (ci := 0) (v := .int w) (C := RX0) (T := TX0) (N := 6) hx hb hts (by decide +kernel) hown hK hP (0) rfl rfl 0 (by decide) (hts (.fieldLink RX0 7 "VinegarLoft$Barrel" "wood" "I") (by decide +kernel)) (fun _ h9 => h9) rfl dX0_spendYear_10 ?_
  refine kr_d (W.runS (As := [.int w]) (rest := [.double li]) ⟨hx, hb, hml, hown, hts⟩ (metX0_share l D w) (va_cwS 1 hts gX0_spendYear_X0_share rfl rfl rfl (by decide +kernel) ⟨Nat.le_of_ble_eq_true rfl, Nat.le_of_ble_eq_true rfl⟩) (prS (ws := []) (tys := []) (fun k q h => by simp at h) (hK.sub [] rfl)) rfl rfl hl.1 rfl (lv_room (Nat.le_of_ble_eq_true rfl)) dX0_spendYear_13 ⟨Nat.le_of_ble_eq_true rfl, Nat.le_of_ble_eq_true rfl⟩) ?_
  refine lv_dmul hx hb dX0_spendYear_16 y1 ?_
  refine lv_dload_n hx hb dX0_spendYear_17 rfl (lv_at hl 2 rfl) ?_
  refine lv_dmul hx hb dX0_spendYear_18 y2 ?_
  refine lv_dstore (lv' := [(5, .double (losv w li dr)), (3, .double li), (0, .ref a), (1, .double dr)]) hx hb dX0_spendYear_19 hl (by decide) rfl (fun ls hl => ?_)
  refine lv_aload_n hx hb dX0_spendYear_21 rfl (lv_at hl 2 rfl) ?_
  refine lv_dload hx hb dX0_spendYear_22 (lv_at hl 0 rfl) ?_
  refine kc_v (w1 := []) (w3 := []) (va_runV (As := [.double (losv w li dr)]) (rest := []) ⟨hx, hb, hml, hown, hts⟩ (metX0_takeOut l D H.size a w z li ag ac su (losv w li dr) y3 (gt_ne y4)) (cwV 1 hts gX0_spendYear_X0_takeOut rfl rfl rfl (by decide +kernel) ⟨Nat.le_of_ble_eq_true rfl, Nat.le_of_ble_eq_true rfl⟩) (pmV 0 0 RX0 TX0 6 rfl rfl hP (hK.sub [] rfl) hD) rfl rfl hl.1 rfl (lv_room (Nat.le_of_ble_eq_true rfl)) dX0_spendYear_24 ⟨Nat.le_of_ble_eq_true rfl, Nat.le_of_ble_eq_true rfl⟩) hP hD hS hA (fun H locs hP hD hS => ?_)
  have hP : va_P D vwCl [(a, tkE w z li ag ac su (losv w li dr))] H := hP
  have hD : va_D A [(a, tkE w z li ag ac su (losv w li dr))] := hD
  have ek : tkE w z li ag ac su (losv w li dr) = EB w z be ag ac su := by unfold tkE; rw [hbe, if_pos (by rw [hbe] at y4; exact y4)]
  rw [ek] at hP hD
  refine lv_aload_n hx hb dX0_spendYear_27 rfl (lv_at hl 2 rfl) ?_
  rw [hbe] at y4
  refine kr_i (W.runV (As := []) (rest := []) ⟨hx, hb, hml, hown, hts⟩ (metX0_isEmpty l D a w z be ag ac su (gt_ne y4)) (cwV 0 hts gX0_spendYear_X0_isEmpty rfl rfl rfl (by decide +kernel) ⟨Nat.le_of_ble_eq_true rfl, Nat.le_of_ble_eq_true rfl⟩) (prV 0 0 RX0 TX0 6 rfl rfl hP (hK.sub [] rfl)) rfl rfl hl.1 rfl (lv_room (Nat.le_of_ble_eq_true rfl)) dX0_spendYear_28 ⟨Nat.le_of_ble_eq_true rfl, Nat.le_of_ble_eq_true rfl⟩) ?_
  rw [show emp be = 0 from if_pos y4]
  refine lv_if_ne (tgt := 82) hx hb dX0_spendYear_31 (by decide) (fun c31 => absurd c31 (fun h9 => h9 rfl)) (fun c31 => ?_)
  refine lv_aload_n hx hb dX0_spendYear_34 rfl (lv_at hl 2 rfl) ?_
  refine va_get (D := D) (ci := 0) (v := .double su) (C := RX0) (T := TX0) (N := 6) hx hb hts (by decide +kernel) hown hK hP (0) rfl rfl 5 (by decide) (hts (.fieldLink RX0 26 "VinegarLoft$Barrel" "sugar" "D") (by decide +kernel)) (fun _ h9 => h9) rfl dX0_spendYear_35 ?_
  refine lv_dload_n hx hb dX0_spendYear_38 rfl (lv_at hl 1 rfl) ?_
  refine lv_dmul hx hb dX0_spendYear_39 y5 ?_
  refine lv_aload_n hx hb dX0_spendYear_40 rfl (lv_at hl 2 rfl) ?_
  refine va_get (D := D) (ci := 0) (v := .double be) (C := RX0) (T := TX0) (N := 6) hx hb hts (by decide +kernel) hown hK hP (0) rfl rfl 2 (by decide) (hts (.fieldLink RX0 16 "VinegarLoft$Barrel" "litres" "D") (by decide +kernel)) (fun _ h9 => h9) rfl dX0_spendYear_41 ?_
  refine lv_ddiv hx hb dX0_spendYear_44 (by rw [← hbe]; exact y6) ?_
  refine lv_dstore (lv' := [(7, .double (FP.ddiv (FP.dmul su li) be)), (5, .double (losv w li dr)), (3, .double li), (0, .ref a), (1, .double dr)]) hx hb dX0_spendYear_45 hl (by decide) rfl (fun ls hl => ?_)
  refine lv_aload_n hx hb dX0_spendYear_47 rfl (lv_at hl 3 rfl) ?_
  refine lv_dload hx hb dX0_spendYear_48 (lv_at hl 0 rfl) ?_
  refine lv_ldc2d hx hb hown (hts (.constantDouble RX0 48 4634626229029306368) (by decide +kernel)) dX0_spendYear_50 ?_
  refine kd_le (tgt := 63) hx hb dX0_spendYear_53 dX0_spendYear_54 (by decide) (by rw [← hbe]; exact y7) (fun c53 => ?_) (fun c53 => ?_)
  · refine lv_dload hx hb dX0_spendYear_63 (lv_at hl 0 rfl) ?_
    refine kd_eq (show (FP.ddiv (FP.dmul su li) be) = thick su li be from by unfold thick; rw [if_neg c53]) ?_
    refine va_put (D := D) (ci := 0) (v := .double (thick su li be)) (ty := .double) (C := RX0) (T := TX0) (N := 6) hx hb hts (by decide +kernel) tyX0 tyX0_ok nmX0 hown hK hP hD hS (0) rfl rfl 5 (by decide) (hts (.fieldLink RX0 26 "VinegarLoft$Barrel" "sugar" "D") (by decide +kernel)) (fun _ h9 => h9) rfl (by decide +kernel) rfl rfl (Nat.le_of_ble_eq_true rfl) dX0_spendYear_65 (fun H locs hP hD hS => ?_)
    have hP : va_P D vwCl [(a, .inr (0, [.int w, .int z, .double be, .double ag, .double ac, .double (thick su li be)]))] H := hP
    have hD : va_D A [(a, .inr (0, [.int w, .int z, .double be, .double ag, .double ac, .double (thick su li be)]))] := hD
    refine lv_aload_n hx hb dX0_spendYear_68 rfl (lv_at hl 3 rfl) ?_
    have y8 : sook ac (thick su li be) := by rw [← hbe]; exact y8
    refine kc_v (w1 := []) (w3 := []) (va_runV (As := []) (rest := []) ⟨hx, hb, hml, hown, hts⟩ (metX0_sour l D H.size a w z be ag ac (thick su li be) y8) (cwV 0 hts gX0_spendYear_X0_sour rfl rfl rfl (by decide +kernel) ⟨Nat.le_of_ble_eq_true rfl, Nat.le_of_ble_eq_true rfl⟩) (pmV 0 0 RX0 TX0 6 rfl rfl hP (hK.sub [] rfl) hD) rfl rfl hl.1 rfl (lv_room (Nat.le_of_ble_eq_true rfl)) dX0_spendYear_69 ⟨Nat.le_of_ble_eq_true rfl, Nat.le_of_ble_eq_true rfl⟩) hP hD hS hA (fun H locs hP hD hS => ?_)
    have hP : va_P D vwCl [(a, .inr (0, [.int w, .int z, .double be, .double ag, .double (soA ac (thick su li be)), .double (soS ac (thick su li be))]))] H := hP
    have hD : va_D A [(a, .inr (0, [.int w, .int z, .double be, .double ag, .double (soA ac (thick su li be)), .double (soS ac (thick su li be))]))] := hD
    refine lv_aload_n hx hb dX0_spendYear_72 rfl (lv_at hl 3 rfl) ?_
    refine lv_aload_n hx hb dX0_spendYear_73 rfl (lv_at hl 3 rfl) ?_
    refine va_get (D := D) (ci := 0) (v := .double ag) (C := RX0) (T := TX0) (N := 6) hx hb hts (by decide +kernel) hown hK hP (0) rfl rfl 3 (by decide) (hts (.fieldLink RX0 20 "VinegarLoft$Barrel" "age" "D") (by decide +kernel)) (fun _ h9 => h9) rfl dX0_spendYear_74 ?_
    refine kd_1 hx hb dX0_spendYear_77 ?_
    refine lv_dadd hx hb dX0_spendYear_78 y9 ?_
    refine va_put (D := D) (ci := 0) (v := .double (FP.dadd ag 4607182418800017408)) (ty := .double) (C := RX0) (T := TX0) (N := 6) hx hb hts (by decide +kernel) tyX0 tyX0_ok nmX0 hown hK hP hD hS (0) rfl rfl 3 (by decide) (hts (.fieldLink RX0 20 "VinegarLoft$Barrel" "age" "D") (by decide +kernel)) (fun _ h9 => h9) rfl (by decide +kernel) rfl rfl (Nat.le_of_ble_eq_true rfl) dX0_spendYear_79 (fun H locs hP hD hS => ?_)
    have hP : va_P D vwCl [(a, .inr (0, [.int w, .int z, .double be, .double (FP.dadd ag 4607182418800017408), .double (soA ac (thick su li be)), .double (soS ac (thick su li be))]))] H := hP
    have hD : va_D A [(a, .inr (0, [.int w, .int z, .double be, .double (FP.dadd ag 4607182418800017408), .double (soA ac (thick su li be)), .double (soS ac (thick su li be))]))] := hD
    refine lv_dload hx hb dX0_spendYear_82 (lv_at hl 1 rfl) ?_
    have hP : va_P D vwCl ([(a, .inr (0, [.int w, .int z, .double (FP.dsub li (losv w li dr)), .double (FP.dadd ag 4607182418800017408), .double (soA ac (thick su li (FP.dsub li (losv w li dr)))), .double (soS ac (thick su li (FP.dsub li (losv w li dr))))]))]) H := by rw [hbe]; exact hP
    have hD : va_D A ([(a, .inr (0, [.int w, .int z, .double (FP.dsub li (losv w li dr)), .double (FP.dadd ag 4607182418800017408), .double (soA ac (thick su li (FP.dsub li (losv w li dr)))), .double (soS ac (thick su li (FP.dsub li (losv w li dr))))]))]) := by rw [hbe]; exact hD
    exact W.dret hx hb hr (fun t ht hW => ⟨⟨_, (), rfl, rfl, by rw [ht]; exact hP, va_K.moved hW.alike hK, hD⟩, hS.F ht⟩) hS.2.2 dX0_spendYear_84
  · refine lv_ldc2d hx hb hown (hts (.constantDouble RX0 48 4634626229029306368) (by decide +kernel)) dX0_spendYear_57 ?_
    refine lv_goto (tgt := 65) hx hb dX0_spendYear_60 (by decide) ?_
    refine kd_eq (show 4634626229029306368 = thick su li be from by unfold thick; rw [if_pos c53]) ?_
    refine va_put (D := D) (ci := 0) (v := .double (thick su li be)) (ty := .double) (C := RX0) (T := TX0) (N := 6) hx hb hts (by decide +kernel) tyX0 tyX0_ok nmX0 hown hK hP hD hS (0) rfl rfl 5 (by decide) (hts (.fieldLink RX0 26 "VinegarLoft$Barrel" "sugar" "D") (by decide +kernel)) (fun _ h9 => h9) rfl (by decide +kernel) rfl rfl (Nat.le_of_ble_eq_true rfl) dX0_spendYear_65 (fun H locs hP hD hS => ?_)
    have hP : va_P D vwCl [(a, .inr (0, [.int w, .int z, .double be, .double ag, .double ac, .double (thick su li be)]))] H := hP
    have hD : va_D A [(a, .inr (0, [.int w, .int z, .double be, .double ag, .double ac, .double (thick su li be)]))] := hD
    refine lv_aload_n hx hb dX0_spendYear_68 rfl (lv_at hl 3 rfl) ?_
    have y8 : sook ac (thick su li be) := by rw [← hbe]; exact y8
    refine kc_v (w1 := []) (w3 := []) (va_runV (As := []) (rest := []) ⟨hx, hb, hml, hown, hts⟩ (metX0_sour l D H.size a w z be ag ac (thick su li be) y8) (cwV 0 hts gX0_spendYear_X0_sour rfl rfl rfl (by decide +kernel) ⟨Nat.le_of_ble_eq_true rfl, Nat.le_of_ble_eq_true rfl⟩) (pmV 0 0 RX0 TX0 6 rfl rfl hP (hK.sub [] rfl) hD) rfl rfl hl.1 rfl (lv_room (Nat.le_of_ble_eq_true rfl)) dX0_spendYear_69 ⟨Nat.le_of_ble_eq_true rfl, Nat.le_of_ble_eq_true rfl⟩) hP hD hS hA (fun H locs hP hD hS => ?_)
    have hP : va_P D vwCl [(a, .inr (0, [.int w, .int z, .double be, .double ag, .double (soA ac (thick su li be)), .double (soS ac (thick su li be))]))] H := hP
    have hD : va_D A [(a, .inr (0, [.int w, .int z, .double be, .double ag, .double (soA ac (thick su li be)), .double (soS ac (thick su li be))]))] := hD
    refine lv_aload_n hx hb dX0_spendYear_72 rfl (lv_at hl 3 rfl) ?_
    refine lv_aload_n hx hb dX0_spendYear_73 rfl (lv_at hl 3 rfl) ?_
    refine va_get (D := D) (ci := 0) (v := .double ag) (C := RX0) (T := TX0) (N := 6) hx hb hts (by decide +kernel) hown hK hP (0) rfl rfl 3 (by decide) (hts (.fieldLink RX0 20 "VinegarLoft$Barrel" "age" "D") (by decide +kernel)) (fun _ h9 => h9) rfl dX0_spendYear_74 ?_
    refine kd_1 hx hb dX0_spendYear_77 ?_
    refine lv_dadd hx hb dX0_spendYear_78 y9 ?_
    refine va_put (D := D) (ci := 0) (v := .double (FP.dadd ag 4607182418800017408)) (ty := .double) (C := RX0) (T := TX0) (N := 6) hx hb hts (by decide +kernel) tyX0 tyX0_ok nmX0 hown hK hP hD hS (0) rfl rfl 3 (by decide) (hts (.fieldLink RX0 20 "VinegarLoft$Barrel" "age" "D") (by decide +kernel)) (fun _ h9 => h9) rfl (by decide +kernel) rfl rfl (Nat.le_of_ble_eq_true rfl) dX0_spendYear_79 (fun H locs hP hD hS => ?_)
    have hP : va_P D vwCl [(a, .inr (0, [.int w, .int z, .double be, .double (FP.dadd ag 4607182418800017408), .double (soA ac (thick su li be)), .double (soS ac (thick su li be))]))] H := hP
    have hD : va_D A [(a, .inr (0, [.int w, .int z, .double be, .double (FP.dadd ag 4607182418800017408), .double (soA ac (thick su li be)), .double (soS ac (thick su li be))]))] := hD
    refine lv_dload hx hb dX0_spendYear_82 (lv_at hl 1 rfl) ?_
    have hP : va_P D vwCl ([(a, .inr (0, [.int w, .int z, .double (FP.dsub li (losv w li dr)), .double (FP.dadd ag 4607182418800017408), .double (soA ac (thick su li (FP.dsub li (losv w li dr)))), .double (soS ac (thick su li (FP.dsub li (losv w li dr))))]))]) H := by rw [hbe]; exact hP
    have hD : va_D A ([(a, .inr (0, [.int w, .int z, .double (FP.dsub li (losv w li dr)), .double (FP.dadd ag 4607182418800017408), .double (soA ac (thick su li (FP.dsub li (losv w li dr)))), .double (soS ac (thick su li (FP.dsub li (losv w li dr))))]))]) := by rw [hbe]; exact hD
    exact W.dret hx hb hr (fun t ht hW => ⟨⟨_, (), rfl, rfl, by rw [ht]; exact hP, va_K.moved hW.alike hK, hD⟩, hS.F ht⟩) hS.2.2 dX0_spendYear_84
set_option maxHeartbeats 4000000 in
set_option maxRecDepth 100000 in
/-- taste() -/
theorem metX0_taste (l : Launch) (D : va_G) (a : Nat) (w z : Int32) (li ag ac su : UInt64) (h0 : FP.dcmp li 0 ≠ none) (ht : FP.dcmp li 0 = some .gt → tasok ag ac su) : Met l yX0_taste wsX0_taste { frames := 1, cells := 0, slots := 0, locals := 20 } (Pr D [] [.ref a] ([(a, .inr (0, [.int w, .int z, .double li, .double ag, .double ac, .double su]))])) (vp_Sd (fun r : UInt64 => r = tasv li ag ac su)) 0 0 (fun _ => False) := by
  refine Met.ofW (cc := cX0_taste) (maxL := 5) (ret := (some .double)) (by decide) rfl ?_
  intro p e s m args below meth c s₁ B hml hv
  obtain ⟨rfl, hP, hK⟩ := hv
  have hx := B.exec
  have hb := B.bytes
  have hr := B.returns
  have hts := atoms_spec (ws := wsX0_taste) B.pre
  have hown : s.vm.findClass RX0 = some m.cls := findClass_of_methodNamed B.named
  have hlocks := B.notSynchronized
  have hl := lv_entry ([.ref a]) (n := 5) (Nat.le_of_ble_eq_true rfl)
  rw [lg_entry_eq]
  generalize (lg_sl ([.ref a]) ++ List.replicate (5 - (lg_sl ([.ref a])).length) Slot.unset).toArray = ls at hl ⊢
  have hl : lv_has ls 5 [(0, .ref a)] := hl
  refine lv_aload_n hx hb dX0_taste_0 rfl (lv_at hl 0 rfl) ?_
  refine kr_i (W.runV (As := []) (rest := []) ⟨hx, hb, hml, hown, hts⟩ (metX0_isEmpty l D a w z li ag ac su h0) (cwV 0 hts gX0_taste_X0_isEmpty rfl rfl rfl (by decide +kernel) ⟨Nat.le_of_ble_eq_true rfl, Nat.le_of_ble_eq_true rfl⟩) (prV 0 0 RX0 TX0 6 rfl rfl hP (hK.sub [] rfl)) rfl rfl hl.1 rfl (lv_room (Nat.le_of_ble_eq_true rfl)) dX0_taste_1 ⟨Nat.le_of_ble_eq_true rfl, Nat.le_of_ble_eq_true rfl⟩) ?_
  refine lv_if_eq (tgt := 9) hx hb dX0_taste_4 (by decide) (fun c4 => ?_) (fun c4 => ?_)
  · have c0 : FP.dcmp li 0 = some .gt := Classical.byContradiction fun h9 => by unfold emp at c4; rw [if_neg h9] at c4; exact absurd c4 (by decide)
    obtain ⟨t1, t2, t3, t4, t5, t6, t7⟩ := ht c0
    refine lv_aload_n hx hb dX0_taste_9 rfl (lv_at hl 0 rfl) ?_
    refine va_get (D := D) (ci := 0) (v := .double ac) (C := RX0) (T := TX0) (N := 6) hx hb hts (by decide +kernel) hown hK hP (0) rfl rfl 4 (by decide) (hts (.fieldLink RX0 23 "VinegarLoft$Barrel" "acid" "D") (by decide +kernel)) (fun _ h9 => h9) rfl dX0_taste_10 ?_
    refine lv_ldc2d hx hb hown (hts (.constantDouble RX0 65 4618441417868443648) (by decide +kernel)) dX0_taste_13 ?_
    refine lv_dsub hx hb dX0_taste_16 t1 ?_
    refine lv_dstore_n (lv' := [(1, .double (FP.dsub ac 4618441417868443648)), (0, .ref a)]) hx hb dX0_taste_17 rfl hl (by decide) rfl (fun ls hl => ?_)
    refine lv_dload_n hx hb dX0_taste_18 rfl (lv_at hl 0 rfl) ?_
    refine kd_0 hx hb dX0_taste_19 ?_
    refine kd_ge (tgt := 29) hx hb dX0_taste_20 dX0_taste_21 (by decide) t2 (fun c20 => ?_) (fun c20 => ?_)
    · refine lv_dload_n hx hb dX0_taste_29 rfl (lv_at hl 0 rfl) ?_
      refine kd_eq (show (FP.dsub ac 4618441417868443648) = absv (FP.dsub ac 4618441417868443648) from by unfold absv; rw [if_neg c20]) ?_
      refine lv_dstore_n (lv' := [(3, .double (absv (FP.dsub ac 4618441417868443648))), (1, .double (FP.dsub ac 4618441417868443648)), (0, .ref a)]) hx hb dX0_taste_30 rfl hl (by decide) rfl (fun ls hl => ?_)
      refine lv_ldc2d hx hb hown (hts (.constantDouble RX0 67 4602678819172646912) (by decide +kernel)) dX0_taste_31 ?_
      refine lv_aload_n hx hb dX0_taste_34 rfl (lv_at hl 2 rfl) ?_
      refine va_get (D := D) (ci := 0) (v := .double ag) (C := RX0) (T := TX0) (N := 6) hx hb hts (by decide +kernel) hown hK hP (0) rfl rfl 3 (by decide) (hts (.fieldLink RX0 20 "VinegarLoft$Barrel" "age" "D") (by decide +kernel)) (fun _ h9 => h9) rfl dX0_taste_35 ?_
      refine lv_dmul hx hb dX0_taste_38 t3 ?_
      refine lv_ldc2d hx hb hown (hts (.constantDouble RX0 59 4605380978949069210) (by decide +kernel)) dX0_taste_39 ?_
      refine lv_aload_n hx hb dX0_taste_42 rfl (lv_at hl 2 rfl) ?_
      refine va_get (D := D) (ci := 0) (v := .double su) (C := RX0) (T := TX0) (N := 6) hx hb hts (by decide +kernel) hown hK hP (0) rfl rfl 5 (by decide) (hts (.fieldLink RX0 26 "VinegarLoft$Barrel" "sugar" "D") (by decide +kernel)) (fun _ h9 => h9) rfl dX0_taste_43 ?_
      refine lv_dmul hx hb dX0_taste_46 t4 ?_
      refine lv_dadd hx hb dX0_taste_47 t5 ?_
      refine lv_ldc2d hx hb hown (hts (.constantDouble RX0 69 4613937818241073152) (by decide +kernel)) dX0_taste_48 ?_
      refine lv_dload_n hx hb dX0_taste_51 rfl (lv_at hl 0 rfl) ?_
      refine lv_dmul hx hb dX0_taste_52 t6 ?_
      refine lv_dsub hx hb dX0_taste_53 t7 ?_
      exact W.dret hx hb hr (fun t ht hW => ⟨_, rfl, by unfold tasv; rw [if_pos c0], ht⟩) (fun q hq => absurd hq List.not_mem_nil) dX0_taste_54
    · refine lv_dload_n hx hb dX0_taste_24 rfl (lv_at hl 0 rfl) ?_
      refine lv_dneg hx hb dX0_taste_25 ?_
      refine lv_goto (tgt := 30) hx hb dX0_taste_26 (by decide) ?_
      refine kd_eq (show (FP.dneg (FP.dsub ac 4618441417868443648)) = absv (FP.dsub ac 4618441417868443648) from by unfold absv; rw [if_pos c20]) ?_
      refine lv_dstore_n (lv' := [(3, .double (absv (FP.dsub ac 4618441417868443648))), (1, .double (FP.dsub ac 4618441417868443648)), (0, .ref a)]) hx hb dX0_taste_30 rfl hl (by decide) rfl (fun ls hl => ?_)
      refine lv_ldc2d hx hb hown (hts (.constantDouble RX0 67 4602678819172646912) (by decide +kernel)) dX0_taste_31 ?_
      refine lv_aload_n hx hb dX0_taste_34 rfl (lv_at hl 2 rfl) ?_
      refine va_get (D := D) (ci := 0) (v := .double ag) (C := RX0) (T := TX0) (N := 6) hx hb hts (by decide +kernel) hown hK hP (0) rfl rfl 3 (by decide) (hts (.fieldLink RX0 20 "VinegarLoft$Barrel" "age" "D") (by decide +kernel)) (fun _ h9 => h9) rfl dX0_taste_35 ?_
      refine lv_dmul hx hb dX0_taste_38 t3 ?_
      refine lv_ldc2d hx hb hown (hts (.constantDouble RX0 59 4605380978949069210) (by decide +kernel)) dX0_taste_39 ?_
      refine lv_aload_n hx hb dX0_taste_42 rfl (lv_at hl 2 rfl) ?_
      refine va_get (D := D) (ci := 0) (v := .double su) (C := RX0) (T := TX0) (N := 6) hx hb hts (by decide +kernel) hown hK hP (0) rfl rfl 5 (by decide) (hts (.fieldLink RX0 26 "VinegarLoft$Barrel" "sugar" "D") (by decide +kernel)) (fun _ h9 => h9) rfl dX0_taste_43 ?_
      refine lv_dmul hx hb dX0_taste_46 t4 ?_
      refine lv_dadd hx hb dX0_taste_47 t5 ?_
      refine lv_ldc2d hx hb hown (hts (.constantDouble RX0 69 4613937818241073152) (by decide +kernel)) dX0_taste_48 ?_
      refine lv_dload_n hx hb dX0_taste_51 rfl (lv_at hl 0 rfl) ?_
      refine lv_dmul hx hb dX0_taste_52 t6 ?_
      refine lv_dsub hx hb dX0_taste_53 t7 ?_
      exact W.dret hx hb hr (fun t ht hW => ⟨_, rfl, by unfold tasv; rw [if_pos c0], ht⟩) (fun q hq => absurd hq List.not_mem_nil) dX0_taste_54
  · refine kd_0 hx hb dX0_taste_7 ?_
    exact W.dret hx hb hr (fun t ht hW => ⟨_, rfl, by unfold tasv; rw [if_neg (fun h9 => by unfold emp at c4; rw [if_pos h9] at c4; exact c4 rfl)], ht⟩) (fun q hq => absurd hq List.not_mem_nil) dX0_taste_8
set_option maxHeartbeats 4000000 in
set_option maxRecDepth 100000 in
/-- copyFrom(other) -/
theorem metX0_copyFrom (l : Launch) (D : va_G) (sz : Nat) (a : Nat) (w z : Int32) (li ag ac su : UInt64) (b : Nat) (w2 z2 : Int32) (li2 ag2 ac2 su2 : UInt64)  : Met l yX0_copyFrom wsX0_copyFrom { frames := 0, cells := 0, slots := 0, locals := 0 } (Pm D [] [.ref a, .ref b] ([(a, .inr (0, [.int w, .int z, .double li, .double ag, .double ac, .double su])), (b, .inr (0, [.int w2, .int z2, .double li2, .double ag2, .double ac2, .double su2]))]) sz) (va_Qv (fun (_ : Unit) => True) (Bm D [] (va_A ([(a, .inr (0, [.int w, .int z, .double li, .double ag, .double ac, .double su])), (b, .inr (0, [.int w2, .int z2, .double li2, .double ag2, .double ac2, .double su2]))]) sz) ([(a, .inr (0, [.int w2, .int z2, .double li2, .double ag2, .double ac2, .double su2])), (b, .inr (0, [.int w2, .int z2, .double li2, .double ag2, .double ac2, .double su2]))])) (va_A ([(a, .inr (0, [.int w, .int z, .double li, .double ag, .double ac, .double su])), (b, .inr (0, [.int w2, .int z2, .double li2, .double ag2, .double ac2, .double su2]))]) sz)) 0 0 (va_A ([(a, .inr (0, [.int w, .int z, .double li, .double ag, .double ac, .double su])), (b, .inr (0, [.int w2, .int z2, .double li2, .double ag2, .double ac2, .double su2]))]) sz) := by
  refine Met.ofW (cc := cX0_copyFrom) (maxL := 2) (ret := none) (by decide) rfl ?_
  intro p e s m args below meth c s₁ B hml hv
  obtain ⟨rfl, hsz, hP, hK, hD0⟩ := hv
  have hx := B.exec
  have hb := B.bytes
  have hr := B.returns
  have hts := atoms_spec (ws := wsX0_copyFrom) B.pre
  have hown : s.vm.findClass RX0 = some m.cls := findClass_of_methodNamed B.named
  have hlocks := B.notSynchronized
  subst hsz
  have hD := hD0.self (sz := s.heap.size)
  generalize hAe : va_A ([(a, .inr (0, [.int w, .int z, .double li, .double ag, .double ac, .double su])), (b, .inr (0, [.int w2, .int z2, .double li2, .double ag2, .double ac2, .double su2]))]) s.heap.size = A at hD ⊢
  have hA : ∀ q : Nat, s.heap.size ≤ q → A q := fun q h => by rw [← hAe]; exact Or.inr h
  refine kW_H (fun H hH => ?_)
  have hP : va_P D vwCl ([(a, .inr (0, [.int w, .int z, .double li, .double ag, .double ac, .double su])), (b, .inr (0, [.int w2, .int z2, .double li2, .double ag2, .double ac2, .double su2]))]) H := by rw [hH]; exact hP
  have hS : va_S A s.heap H [] := by rw [hH]; exact va_S.rf
  have hl := lv_entry ([.ref a, .ref b]) (n := 2) (Nat.le_of_ble_eq_true rfl)
  rw [lg_entry_eq]
  generalize (lg_sl ([.ref a, .ref b]) ++ List.replicate (2 - (lg_sl ([.ref a, .ref b])).length) Slot.unset).toArray = ls at hl ⊢
  have hl : lv_has ls 2 [(0, .ref a), (1, .ref b)] := hl
  refine lv_aload_n hx hb dX0_copyFrom_0 rfl (lv_at hl 0 rfl) ?_
  refine lv_aload_n hx hb dX0_copyFrom_1 rfl (lv_at hl 1 rfl) ?_
  refine va_get (D := D) (ci := 0) (v := .int w2) (C := RX0) (T := TX0) (N := 6) hx hb hts (by decide +kernel) hown hK hP (1) rfl rfl 0 (by decide) (hts (.fieldLink RX0 7 "VinegarLoft$Barrel" "wood" "I") (by decide +kernel)) (fun _ h9 => h9) rfl dX0_copyFrom_2 ?_
  refine va_put (D := D) (ci := 0) (v := .int w2) (ty := .int) (C := RX0) (T := TX0) (N := 6) hx hb hts (by decide +kernel) tyX0 tyX0_ok nmX0 hown hK hP hD hS (0) rfl rfl 0 (by decide) (hts (.fieldLink RX0 7 "VinegarLoft$Barrel" "wood" "I") (by decide +kernel)) (fun _ h9 => h9) rfl (by decide +kernel) rfl rfl (Nat.le_of_ble_eq_true rfl) dX0_copyFrom_5 (fun H locs hP hD hS => ?_)
  have hP : va_P D vwCl [(a, .inr (0, [.int w2, .int z, .double li, .double ag, .double ac, .double su])), (b, .inr (0, [.int w2, .int z2, .double li2, .double ag2, .double ac2, .double su2]))] H := hP
  have hD : va_D A [(a, .inr (0, [.int w2, .int z, .double li, .double ag, .double ac, .double su])), (b, .inr (0, [.int w2, .int z2, .double li2, .double ag2, .double ac2, .double su2]))] := hD
  refine lv_aload_n hx hb dX0_copyFrom_8 rfl (lv_at hl 0 rfl) ?_
  refine lv_aload_n hx hb dX0_copyFrom_9 rfl (lv_at hl 1 rfl) ?_
  refine va_get (D := D) (ci := 0) (v := .int z2) (C := RX0) (T := TX0) (N := 6) hx hb hts (by decide +kernel) hown hK hP (1) rfl rfl 1 (by decide) (hts (.fieldLink RX0 13 "VinegarLoft$Barrel" "size" "I") (by decide +kernel)) (fun _ h9 => h9) rfl dX0_copyFrom_10 ?_
  refine va_put (D := D) (ci := 0) (v := .int z2) (ty := .int) (C := RX0) (T := TX0) (N := 6) hx hb hts (by decide +kernel) tyX0 tyX0_ok nmX0 hown hK hP hD hS (0) rfl rfl 1 (by decide) (hts (.fieldLink RX0 13 "VinegarLoft$Barrel" "size" "I") (by decide +kernel)) (fun _ h9 => h9) rfl (by decide +kernel) rfl rfl (Nat.le_of_ble_eq_true rfl) dX0_copyFrom_13 (fun H locs hP hD hS => ?_)
  have hP : va_P D vwCl [(a, .inr (0, [.int w2, .int z2, .double li, .double ag, .double ac, .double su])), (b, .inr (0, [.int w2, .int z2, .double li2, .double ag2, .double ac2, .double su2]))] H := hP
  have hD : va_D A [(a, .inr (0, [.int w2, .int z2, .double li, .double ag, .double ac, .double su])), (b, .inr (0, [.int w2, .int z2, .double li2, .double ag2, .double ac2, .double su2]))] := hD
  refine lv_aload_n hx hb dX0_copyFrom_16 rfl (lv_at hl 0 rfl) ?_
  refine lv_aload_n hx hb dX0_copyFrom_17 rfl (lv_at hl 1 rfl) ?_
  refine va_get (D := D) (ci := 0) (v := .double li2) (C := RX0) (T := TX0) (N := 6) hx hb hts (by decide +kernel) hown hK hP (1) rfl rfl 2 (by decide) (hts (.fieldLink RX0 16 "VinegarLoft$Barrel" "litres" "D") (by decide +kernel)) (fun _ h9 => h9) rfl dX0_copyFrom_18 ?_
  refine va_put (D := D) (ci := 0) (v := .double li2) (ty := .double) (C := RX0) (T := TX0) (N := 6) hx hb hts (by decide +kernel) tyX0 tyX0_ok nmX0 hown hK hP hD hS (0) rfl rfl 2 (by decide) (hts (.fieldLink RX0 16 "VinegarLoft$Barrel" "litres" "D") (by decide +kernel)) (fun _ h9 => h9) rfl (by decide +kernel) rfl rfl (Nat.le_of_ble_eq_true rfl) dX0_copyFrom_21 (fun H locs hP hD hS => ?_)
  have hP : va_P D vwCl [(a, .inr (0, [.int w2, .int z2, .double li2, .double ag, .double ac, .double su])), (b, .inr (0, [.int w2, .int z2, .double li2, .double ag2, .double ac2, .double su2]))] H := hP
  have hD : va_D A [(a, .inr (0, [.int w2, .int z2, .double li2, .double ag, .double ac, .double su])), (b, .inr (0, [.int w2, .int z2, .double li2, .double ag2, .double ac2, .double su2]))] := hD
  refine lv_aload_n hx hb dX0_copyFrom_24 rfl (lv_at hl 0 rfl) ?_
  refine lv_aload_n hx hb dX0_copyFrom_25 rfl (lv_at hl 1 rfl) ?_
  refine va_get (D := D) (ci := 0) (v := .double ag2) (C := RX0) (T := TX0) (N := 6) hx hb hts (by decide +kernel) hown hK hP (1) rfl rfl 3 (by decide) (hts (.fieldLink RX0 20 "VinegarLoft$Barrel" "age" "D") (by decide +kernel)) (fun _ h9 => h9) rfl dX0_copyFrom_26 ?_
  refine va_put (D := D) (ci := 0) (v := .double ag2) (ty := .double) (C := RX0) (T := TX0) (N := 6) hx hb hts (by decide +kernel) tyX0 tyX0_ok nmX0 hown hK hP hD hS (0) rfl rfl 3 (by decide) (hts (.fieldLink RX0 20 "VinegarLoft$Barrel" "age" "D") (by decide +kernel)) (fun _ h9 => h9) rfl (by decide +kernel) rfl rfl (Nat.le_of_ble_eq_true rfl) dX0_copyFrom_29 (fun H locs hP hD hS => ?_)
  have hP : va_P D vwCl [(a, .inr (0, [.int w2, .int z2, .double li2, .double ag2, .double ac, .double su])), (b, .inr (0, [.int w2, .int z2, .double li2, .double ag2, .double ac2, .double su2]))] H := hP
  have hD : va_D A [(a, .inr (0, [.int w2, .int z2, .double li2, .double ag2, .double ac, .double su])), (b, .inr (0, [.int w2, .int z2, .double li2, .double ag2, .double ac2, .double su2]))] := hD
  refine lv_aload_n hx hb dX0_copyFrom_32 rfl (lv_at hl 0 rfl) ?_
  refine lv_aload_n hx hb dX0_copyFrom_33 rfl (lv_at hl 1 rfl) ?_
  refine va_get (D := D) (ci := 0) (v := .double ac2) (C := RX0) (T := TX0) (N := 6) hx hb hts (by decide +kernel) hown hK hP (1) rfl rfl 4 (by decide) (hts (.fieldLink RX0 23 "VinegarLoft$Barrel" "acid" "D") (by decide +kernel)) (fun _ h9 => h9) rfl dX0_copyFrom_34 ?_
  refine va_put (D := D) (ci := 0) (v := .double ac2) (ty := .double) (C := RX0) (T := TX0) (N := 6) hx hb hts (by decide +kernel) tyX0 tyX0_ok nmX0 hown hK hP hD hS (0) rfl rfl 4 (by decide) (hts (.fieldLink RX0 23 "VinegarLoft$Barrel" "acid" "D") (by decide +kernel)) (fun _ h9 => h9) rfl (by decide +kernel) rfl rfl (Nat.le_of_ble_eq_true rfl) dX0_copyFrom_37 (fun H locs hP hD hS => ?_)
  have hP : va_P D vwCl [(a, .inr (0, [.int w2, .int z2, .double li2, .double ag2, .double ac2, .double su])), (b, .inr (0, [.int w2, .int z2, .double li2, .double ag2, .double ac2, .double su2]))] H := hP
  have hD : va_D A [(a, .inr (0, [.int w2, .int z2, .double li2, .double ag2, .double ac2, .double su])), (b, .inr (0, [.int w2, .int z2, .double li2, .double ag2, .double ac2, .double su2]))] := hD
  refine lv_aload_n hx hb dX0_copyFrom_40 rfl (lv_at hl 0 rfl) ?_
  refine lv_aload_n hx hb dX0_copyFrom_41 rfl (lv_at hl 1 rfl) ?_
  refine va_get (D := D) (ci := 0) (v := .double su2) (C := RX0) (T := TX0) (N := 6) hx hb hts (by decide +kernel) hown hK hP (1) rfl rfl 5 (by decide) (hts (.fieldLink RX0 26 "VinegarLoft$Barrel" "sugar" "D") (by decide +kernel)) (fun _ h9 => h9) rfl dX0_copyFrom_42 ?_
  refine va_put (D := D) (ci := 0) (v := .double su2) (ty := .double) (C := RX0) (T := TX0) (N := 6) hx hb hts (by decide +kernel) tyX0 tyX0_ok nmX0 hown hK hP hD hS (0) rfl rfl 5 (by decide) (hts (.fieldLink RX0 26 "VinegarLoft$Barrel" "sugar" "D") (by decide +kernel)) (fun _ h9 => h9) rfl (by decide +kernel) rfl rfl (Nat.le_of_ble_eq_true rfl) dX0_copyFrom_45 (fun H locs hP hD hS => ?_)
  have hP : va_P D vwCl [(a, .inr (0, [.int w2, .int z2, .double li2, .double ag2, .double ac2, .double su2])), (b, .inr (0, [.int w2, .int z2, .double li2, .double ag2, .double ac2, .double su2]))] H := hP
  have hD : va_D A [(a, .inr (0, [.int w2, .int z2, .double li2, .double ag2, .double ac2, .double su2])), (b, .inr (0, [.int w2, .int z2, .double li2, .double ag2, .double ac2, .double su2]))] := hD
  exact W.vret hx hb hr (fun t ht hW => ⟨⟨(), rfl, trivial, by rw [ht]; exact hP, va_K.moved hW.alike hK, hD⟩, hS.F ht⟩) hS.2.2 dX0_copyFrom_48
end
section
/-! what a row does, out of one table h: litres (0..7), age (8..), acid (16..), sugar (24..) -/
theorem nI_p {n : Nat} (h : 0 < n) : nI n - 1 = nI (n - 1) := pk_sub (a := n) (b := 1) h
theorem nI_le0 {n : Nat} (hn : n < 2 ^ 31) : nI n ≤ 0 ↔ n = 0 := by
  constructor
  · intro h
    exact Nat.eq_zero_of_not_pos fun h0 => nI_nle h0 hn h
  · rintro rfl
    decide
def encO (o : Option Nat) : Int32 := match o with
  | none => -1
  | some b => nI b
theorem encO_m1 {o : Option Nat} (h : ∀ b, o = some b → b < 8) : encO o = -1 ↔ o = none := by
  cases o with
  | none => exact ⟨fun _ => rfl, fun _ => rfl⟩
  | some b =>
    refine ⟨fun e => ?_, fun e => nomatch e⟩
    have hb := h b rfl
    have h1 := congrArg Int32.toInt e
    rw [show (encO (some b)).toInt = (nI b).toInt from rfl, nI_toInt (by omega)] at h1
    have h2 : (-1 : Int32).toInt = -1 := by decide
    omega
/-- litres for the next barrel -/
def lgN (zs : Nat → Int32) (n : Nat) : Int32 := if n = 0 then 100 else zs (n - 1) - 1
def lesv (a b : UInt64) : UInt64 := if FP.dcmp a b = some .lt then a else b
/-- must into the first barrel -/
def poH (h : Nat → UInt64) (must : UInt64) : Nat → UInt64 := if FP.dcmp must 0 = some .gt then hset h 0 (FP.dadd (h 0) must) (mixv (h 0) (h 8) must 0) (mixv (h 0) (h 16) must 4607182418800017408) (mixv (h 0) (h 24) must 4629137466983448576) else h
def poR (must : UInt64) : UInt64 := if FP.dcmp must 0 = some .gt then must else 0
def musv (z0 : Int32) (l0 x : UInt64) : UInt64 := lesv x (FP.dsub (FP.i2d z0) l0)
def mixok3 (h : Nat → UInt64) (b : Nat) (w ag ac su : UInt64) : Prop := mixok (h b) (h (8 + b)) w ag ∧ mixok (h b) (h (16 + b)) w ac ∧ mixok (h b) (h (24 + b)) w su
def pook (z0 : Int32) (h : Nat → UInt64) (x : UInt64) : Prop := vf_n64 (FP.dsub (FP.i2d z0) (h 0)) ∧ FP.dcmp x (FP.dsub (FP.i2d z0) (h 0)) ≠ none ∧ FP.dcmp (musv z0 (h 0) x) 0 ≠ none ∧ (FP.dcmp (musv z0 (h 0) x) 0 = some .gt → mixok3 h 0 (musv z0 (h 0) x) 0 4607182418800017408 4629137466983448576)
/-- what goes from a barrel of l1 litres into one of size z2 with l2 -/
def goev (z2 : Int32) (l2 l1 : UInt64) : UInt64 := lesv (FP.dsub (FP.dmul 4606281698874543309 (FP.i2d z2)) l2) (FP.dmul 4602678819172646912 l1)
def paok (z2 : Int32) (l1 g1 a1 s1 l2 g2 a2 s2 : UInt64) : Prop :=
  vf_n64 (FP.dmul 4606281698874543309 (FP.i2d z2)) ∧ vf_n64 (FP.dsub (FP.dmul 4606281698874543309 (FP.i2d z2)) l2) ∧ vf_n64 (FP.dmul 4602678819172646912 l1) ∧ FP.dcmp (FP.dsub (FP.dmul 4606281698874543309 (FP.i2d z2)) l2) (FP.dmul 4602678819172646912 l1) ≠ none ∧ FP.dcmp (goev z2 l2 l1) 0 ≠ none ∧
  (FP.dcmp (goev z2 l2 l1) 0 = some .gt → mixok l2 g2 (goev z2 l2 l1) g1 ∧ mixok l2 a2 (goev z2 l2 l1) a1 ∧ mixok l2 s2 (goev z2 l2 l1) s1 ∧ vf_n64 (FP.dsub l1 (goev z2 l2 l1)) ∧ FP.dcmp (FP.dsub l1 (goev z2 l2 l1)) 0 = some .gt)
/-- barrel k + 1 gets from barrel k -/
def paG (zs : Nat → Int32) (h : Nat → UInt64) (k : Nat) : UInt64 := goev (zs (k + 1)) (h (k + 1)) (h k)
def paH (zs : Nat → Int32) (h : Nat → UInt64) (k : Nat) : Nat → UInt64 := if FP.dcmp (paG zs h k) 0 = some .gt then hset (hset h (k + 1) (FP.dadd (h (k + 1)) (paG zs h k)) (mixv (h (k + 1)) (h (8 + (k + 1))) (paG zs h k) (h (8 + k))) (mixv (h (k + 1)) (h (16 + (k + 1))) (paG zs h k) (h (16 + k))) (mixv (h (k + 1)) (h (24 + (k + 1))) (paG zs h k) (h (24 + k)))) k (FP.dsub (h k) (paG zs h k)) (h (8 + k)) (h (16 + k)) (h (24 + k)) else h
def paS (zs : Nat → Int32) (h : Nat → UInt64) (k : Nat) (sum : UInt64) : UInt64 := if FP.dcmp (paG zs h k) 0 = some .gt then FP.dadd sum (paG zs h k) else sum
/-- from barrel k + 1 down to the second one -/
def toH (zs : Nat → Int32) : Nat → (Nat → UInt64) → Nat → UInt64
  | 0, h => h
  | k + 1, h => toH zs k (paH zs h k)
def toS (zs : Nat → Int32) : Nat → (Nat → UInt64) → UInt64 → UInt64
  | 0, _, sum => sum
  | k + 1, h, sum => toS zs k (paH zs h k) (paS zs h k sum)
def took (zs : Nat → Int32) : Nat → (Nat → UInt64) → UInt64 → Prop
  | 0, _, _ => True
  | k + 1, h, sum => (paok (zs (k + 1)) (h k) (h (8 + k)) (h (16 + k)) (h (24 + k)) (h (k + 1)) (h (8 + (k + 1))) (h (16 + (k + 1))) (h (24 + (k + 1))) ∧ NN sum ∧ (FP.dcmp (paG zs h k) 0 = some .gt → vf_n64 (FP.dadd sum (paG zs h k)))) ∧ took zs k (paH zs h k) (paS zs h k sum)
/-- the draught -/
def drw (wm : Int32) : UInt64 := FP.dadd 4607182418800017408 (FP.dmul 4587366580439587226 (FP.i2d (wm - 18)))
def drv (wm : Int32) : UInt64 := if FP.dcmp (drw wm) 4596373779694328218 = some .lt then 4596373779694328218 else drw wm
def drok (wm : Int32) : Prop := vf_n64 (FP.dmul 4587366580439587226 (FP.i2d (wm - 18))) ∧ vf_n64 (drw wm) ∧ FP.dcmp (drw wm) 4596373779694328218 ≠ none
/-- a year in barrel k -/
def yrH (wd : Nat → Int32) (dr : UInt64) (h : Nat → UInt64) (k : Nat) : Nat → UInt64 := if FP.dcmp (h k) 0 = some .gt then hset h k (FP.dsub (h k) (losv (wd k) (h k) dr)) (FP.dadd (h (8 + k)) 4607182418800017408) (soA (h (16 + k)) (thick (h (24 + k)) (h k) (FP.dsub (h k) (losv (wd k) (h k) dr)))) (soS (h (16 + k)) (thick (h (24 + k)) (h k) (FP.dsub (h k) (losv (wd k) (h k) dr)))) else h
def yrS (wd : Nat → Int32) (dr : UInt64) (h : Nat → UInt64) (k : Nat) (sum : UInt64) : UInt64 := if FP.dcmp (h k) 0 = some .gt then FP.dadd sum (losv (wd k) (h k) dr) else sum
/-- .. in the first k barrels -/
def agH (wd : Nat → Int32) (dr : UInt64) (h : Nat → UInt64) : Nat → Nat → UInt64
  | 0 => h
  | k + 1 => yrH wd dr (agH wd dr h k) k
def agS (wd : Nat → Int32) (dr : UInt64) (h : Nat → UInt64) : Nat → UInt64
  | 0 => 0
  | k + 1 => yrS wd dr (agH wd dr h k) k (agS wd dr h k)
def agok (wd : Nat → Int32) (dr : UInt64) (h : Nat → UInt64) (n : Nat) : Prop := ∀ k, k < n → FP.dcmp (agH wd dr h k k) 0 ≠ none ∧ (FP.dcmp (agH wd dr h k k) 0 = some .gt → yearok (wd k) (agH wd dr h k k) (agH wd dr h k (8 + k)) (agH wd dr h k (16 + k)) (agH wd dr h k (24 + k)) dr ∧ vf_n64 (FP.dadd (agS wd dr h k) (losv (wd k) (agH wd dr h k k) dr)))
/-- the oldest of the first k -/
def elt (h : Nat → UInt64) (k : Nat) (o : Option Nat) : Bool := decide (FP.dcmp (h k) 0 = some .gt) && (match o with
  | none => true
  | some b => decide (FP.dcmp (h (8 + k)) (h (8 + b)) ≠ some .lt))
def elO (h : Nat → UInt64) : Nat → Option Nat
  | 0 => none
  | k + 1 => if elt h k (elO h k) = true then some k else elO h k
def elG (h : Nat → UInt64) (o : Option Nat) : UInt64 := match o with
  | none => 0
  | some b => h (8 + b)
def NNr (n : Nat) (h : Nat → UInt64) : Prop := ∀ i, i < n → NN (h i) ∧ NN (h (8 + i))
theorem elO_lt (h : Nat → UInt64) : ∀ (k b : Nat), elO h k = some b → b < k
  | 0, b, e => nomatch e
  | k + 1, b, e => by
    unfold elO at e
    split at e
    · cases e; omega
    · have := elO_lt h k b e; omega
/-- the quota of a year -/
def quv (h : Nat → UInt64) (o : Option Nat) : UInt64 := match o with
  | none => 0
  | some b => FP.dmul 4598175219545276416 (h b)
/-- bottles that are ready -/
def leB (h : Nat → UInt64) (q : UInt64) (b : Nat) : UInt64 := lesv q (h b)
def rdv (h : Nat → UInt64) (n : Nat) (df : Int32) (q : UInt64) : Int32 := match elO h n with
  | none => 0
  | some b => if nI b = df then (if FP.dcmp (h (8 + b)) 4622945017495814144 = some .lt ∨ FP.dcmp (h (24 + b)) 4627730092099895296 = some .lt then 0 else if FP.dcmp (leB h q b) 0 = some .gt then FP.d2i (FP.ddiv (leB h q b) 4591870180066957722) else 0) else 0
def rdok (h : Nat → UInt64) (n : Nat) (q : UInt64) : Prop := ∀ b, b < n → FP.dcmp (h (8 + b)) 4622945017495814144 ≠ none ∧ FP.dcmp (h (24 + b)) 4627730092099895296 ≠ none ∧ FP.dcmp q (h b) ≠ none ∧ FP.dcmp (leB h q b) 0 ≠ none ∧ (FP.dcmp (leB h q b) 0 = some .gt → vf_n64 (FP.ddiv (leB h q b) 4591870180066957722))
/-- litres of some bottles -/
def botv (x : Int32) : UInt64 := FP.dmul (FP.i2d x) 4591870180066957722
/-- barrel b with less -/
def tkH (h : Nat → UInt64) (b : Nat) (less : UInt64) : Nat → UInt64 := if FP.dcmp (FP.dsub (h b) less) 0 = some .gt then hset h b (FP.dsub (h b) less) (h (8 + b)) (h (16 + b)) (h (24 + b)) else hset h b 0 0 0 0
/-- sums over the first k barrels -/
def suL (h : Nat → UInt64) : Nat → UInt64
  | 0 => 0
  | k + 1 => FP.dadd (suL h k) (h k)
def suP (f : Nat) (h : Nat → UInt64) : Nat → UInt64
  | 0 => 0
  | k + 1 => FP.dadd (suP f h k) (FP.dmul (h k) (h (f + k)))
def suLok (h : Nat → UInt64) (n : Nat) : Prop := ∀ k, k < n → vf_n64 (FP.dadd (suL h k) (h k))
def suPok (f : Nat) (h : Nat → UInt64) (n : Nat) : Prop := ∀ k, k < n → vf_n64 (FP.dmul (h k) (h (f + k))) ∧ vf_n64 (FP.dadd (suP f h k) (FP.dmul (h k) (h (f + k))))
/-- the first k barrels of g, the others of f -/
def cpI (k : Nat) (f g : Nat → Int32) : Nat → Int32 := fun i => if i < k then g i else f i
def cpH (k : Nat) (f g : Nat → UInt64) : Nat → UInt64 := fun i => if i < 32 ∧ i % 8 < k then g i else f i
theorem cpI_0 {f g : Nat → Int32} : cpI 0 f g = f := by funext i; simp [cpI]
theorem cpH_0 {f g : Nat → UInt64} : cpH 0 f g = f := by funext i; simp [cpH]
theorem cpI_s {f g : Nat → Int32} {k : Nat} : va_up (cpI k f g) k (g k) = cpI (k + 1) f g := by
  funext i
  unfold va_up cpI
  by_cases h1 : i = k
  · subst h1; simp
  · by_cases h2 : i < k
    · rw [if_neg h1, if_pos h2, if_pos (by omega)]
    · rw [if_neg h1, if_neg h2, if_neg (by omega)]
theorem cpH_s {f g : Nat → UInt64} {k : Nat} (hk : k < 8) : hset (cpH k f g) k (g k) (g (8 + k)) (g (16 + k)) (g (24 + k)) = cpH (k + 1) f g := by
  funext i
  unfold hset cpH
  by_cases h1 : i = k
  · subst h1; rw [if_pos rfl, if_pos ⟨by omega, by omega⟩]
  · rw [if_neg h1]
    by_cases h2 : i = 8 + k
    · subst h2; rw [if_pos rfl, if_pos ⟨by omega, by omega⟩]
    · rw [if_neg h2]
      by_cases h3 : i = 16 + k
      · subst h3; rw [if_pos rfl, if_pos ⟨by omega, by omega⟩]
      · rw [if_neg h3]
        by_cases h4 : i = 24 + k
        · subst h4; rw [if_pos rfl, if_pos ⟨by omega, by omega⟩]
        · rw [if_neg h4]
          by_cases h5 : i < 32 ∧ i % 8 < k
          · rw [if_pos h5, if_pos ⟨h5.1, by omega⟩]
          · rw [if_neg h5, if_neg (fun h6 => h5 ⟨h6.1, by omega⟩)]
section LOOPS
variable {p : Program} {l : Launch} {e : Env} {R : Room} {s : State} {m : MethodId} {args : Array Value} {below : List Frame} {meth : Method} {c : Code} {H : Heap} {locs : List Loc} {cells slots : Nat} {Q : State → Prop} {pc : Nat} {ls : Array Slot}
/-- a loop that counts up -/
theorem kW_up (N : Nat) (I : Nat → Heap → List Loc → Array Slot → Prop)
    (hs : ∀ (i : Nat) (H : Heap) (locs : List Loc) (ls : Array Slot), i < N → I i H locs ls → (∀ (H : Heap) (locs : List Loc) (ls : Array Slot), I (i + 1) H locs ls → W p l e R s m args below meth c H locs cells slots Q (F0 m pc ls [])) → W p l e R s m args below meth c H locs cells slots Q (F0 m pc ls []))
    (he : ∀ (H : Heap) (locs : List Loc) (ls : Array Slot), I N H locs ls → W p l e R s m args below meth c H locs cells slots Q (F0 m pc ls []))
    (h0 : I 0 H locs ls) : W p l e R s m args below meth c H locs cells slots Q (F0 m pc ls []) := by
  have key : ∀ (k i : Nat), i + k = N → ∀ (H : Heap) (locs : List Loc) (ls : Array Slot), I i H locs ls → W p l e R s m args below meth c H locs cells slots Q (F0 m pc ls []) := by
    intro k
    induction k with
    | zero =>
      intro i hi H locs ls hI
      have : i = N := by omega
      subst this
      exact he H locs ls hI
    | succ k ih =>
      intro i hi H locs ls hI
      exact hs i H locs ls (by omega) hI (fun H locs ls h => ih (i + 1) (by omega) H locs ls h)
  exact key N 0 (by omega) H locs ls h0
/-- a loop that counts down -/
theorem kW_dn (N : Nat) (I : Nat → Heap → List Loc → Array Slot → Prop)
    (hs : ∀ (i : Nat) (H : Heap) (locs : List Loc) (ls : Array Slot), i < N → I (i + 1) H locs ls → (∀ (H : Heap) (locs : List Loc) (ls : Array Slot), I i H locs ls → W p l e R s m args below meth c H locs cells slots Q (F0 m pc ls [])) → W p l e R s m args below meth c H locs cells slots Q (F0 m pc ls []))
    (he : ∀ (H : Heap) (locs : List Loc) (ls : Array Slot), I 0 H locs ls → W p l e R s m args below meth c H locs cells slots Q (F0 m pc ls []))
    (h0 : I N H locs ls) : W p l e R s m args below meth c H locs cells slots Q (F0 m pc ls []) := by
  have key : ∀ (i : Nat), i ≤ N → ∀ (H : Heap) (locs : List Loc) (ls : Array Slot), I i H locs ls → W p l e R s m args below meth c H locs cells slots Q (F0 m pc ls []) := by
    intro i
    induction i with
    | zero => intro _ H locs ls hI; exact he H locs ls hI
    | succ i ih =>
      intro hi H locs ls hI
      exact hs i H locs ls (by omega) hI (fun H locs ls h => ih (by omega) H locs ls h)
  exact key N (Nat.le_refl N) H locs ls h0
/-- a loop that counts up and writes nothing -/
theorem kW_upR (N : Nat) (I : Nat → Array Slot → Prop)
    (hs : ∀ (i : Nat) (ls : Array Slot), i < N → I i ls → (∀ (ls : Array Slot), I (i + 1) ls → W p l e R s m args below meth c H locs cells slots Q (F0 m pc ls [])) → W p l e R s m args below meth c H locs cells slots Q (F0 m pc ls []))
    (he : ∀ (ls : Array Slot), I N ls → W p l e R s m args below meth c H locs cells slots Q (F0 m pc ls []))
    (h0 : I 0 ls) : W p l e R s m args below meth c H locs cells slots Q (F0 m pc ls []) := by
  have key : ∀ (k i : Nat), i + k = N → ∀ (ls : Array Slot), I i ls → W p l e R s m args below meth c H locs cells slots Q (F0 m pc ls []) := by
    intro k
    induction k with
    | zero =>
      intro i hi ls hI
      have : i = N := by omega
      subst this
      exact he ls hI
    | succ k ih =>
      intro i hi ls hI
      exact hs i ls (by omega) hI (fun ls h => ih (i + 1) (by omega) ls h)
  exact key N 0 (by omega) ls h0
variable {D : va_G} {tys : List (ClassId × FieldType)} {ws : va_W} {cc : ByteArray} {rest : List Value}
/-- a barrel out of the row's line -/
theorem kx_ald (hexec : p.tables.exec = Jvm.exec) (hb : c.code = cc) (hK : va_K D vwCl tys s) (hP : va_P D vwCl ws H) (q0 t0 : Nat) {la : Nat} {bs : Nat → Nat} {cA : ClassId} (ha : ws[q0]? = some (la, EL cA bs)) (ht : tys[t0]? = some (cA, .object "VinegarLoft$Barrel")) {i : Int32} {j : Nat} (hi : i = nI j) (hj : j < 8) (hdg : decode cc pc = .ok (.aaload, 1))
    (kk : W p l e R s m args below meth c H locs cells slots Q (F0 m (pc + 1) ls (.ref (bs j) :: rest))) : W p l e R s m args below meth c H locs cells slots Q (F0 m pc ls (.int i :: .ref la :: rest)) := by
  subst hi
  refine va_aldq hexec hb hK hP q0 t0 ha ht (vp_in_nI hj (by omega)) hdg ?_
  rw [nI_clamp (by omega)]
  exact kk
end LOOPS
end
section
/-! VinegarLoft$Row: its methods (laid by wip/whole/prog/x1.py) -/
set_option maxHeartbeats 4000000 in
set_option maxRecDepth 100000 in
theorem metX1_isComplete (l : Launch) (D : va_G) (r la : Nat) (bs : Nat → Nat) (cA : ClassId) (n : Nat) (hn : n ≤ 8) (wm df : Int32) (q : UInt64) (wd zs : Nat → Int32) (h : Nat → UInt64)  : Met l yX1_isComplete wsX1_isComplete { frames := 0, cells := 0, slots := 0, locals := 0 } (Pr D [(cA, .object "VinegarLoft$Barrel")] [.ref r] (rowW r la bs cA (nI n) wm df q wd zs h)) (vp_Si (fun r : Int32 => r = (if nI n < 8 then 0 else 1))) 0 0 (fun _ => False) := by
  refine Met.ofW (cc := cX1_isComplete) (maxL := 1) (ret := (some .boolean)) (by decide) rfl ?_
  intro p e s m args below meth c s₁ B hml hv
  obtain ⟨rfl, hP, hK⟩ := hv
  have hx := B.exec
  have hb := B.bytes
  have hr := B.returns
  have hts := atoms_spec (ws := wsX1_isComplete) B.pre
  have hown : s.vm.findClass RX1 = some m.cls := findClass_of_methodNamed B.named
  have hlocks := B.notSynchronized
  have hl := lv_entry ([.ref r]) (n := 1) (Nat.le_of_ble_eq_true rfl)
  rw [lg_entry_eq]
  generalize (lg_sl ([.ref r]) ++ List.replicate (1 - (lg_sl ([.ref r])).length) Slot.unset).toArray = ls at hl ⊢
  have hl : lv_has ls 1 [(0, .ref r)] := hl
  refine lv_aload_n hx hb dX1_isComplete_0 rfl (lv_at hl 0 rfl) ?_
  refine va_get (D := D) (ci := 1) (v := .int (nI n)) (C := RX1) (T := TX1) (N := 5) hx hb hts (by decide +kernel) hown hK hP (0) rfl rfl 1 (by decide) (hts (.fieldLink RX1 18 "VinegarLoft$Row" "count" "I") (by decide +kernel)) (fun _ h9 => h9) rfl dX1_isComplete_1 ?_
  refine lv_aload_n hx hb dX1_isComplete_4 rfl (lv_at hl 0 rfl) ?_
  refine va_get (D := D) (ci := 1) (v := .ref la) (C := RX1) (T := TX1) (N := 5) hx hb hts (by decide +kernel) hown hK hP (0) rfl rfl 0 (by decide) (hts (.fieldLink RX1 11 "VinegarLoft$Row" "line" "[LVinegarLoft$Barrel;") (by decide +kernel)) (fun _ h9 => h9) rfl dX1_isComplete_5 ?_
  refine va_alen hx hb hK hP 1 0 (v := 8) rfl rfl rfl dX1_isComplete_8 ?_
  refine lv_icmp_lt (tgt := 16) hx hb dX1_isComplete_9 (by decide) (fun c9 => ?_) (fun c9 => ?_)
  · refine lv_iconst (v := 0) hx hb dX1_isComplete_16 (by decide) ?_
    exact W.zret hx hb hr (by first | rfl | decide) (fun t ht hW => ⟨_, rfl, (if_pos c9).symm, ht⟩) (fun q hq => absurd hq List.not_mem_nil) dX1_isComplete_17
  · refine lv_iconst (v := 1) hx hb dX1_isComplete_12 (by decide) ?_
    refine lv_goto (tgt := 17) hx hb dX1_isComplete_13 (by decide) ?_
    exact W.zret hx hb hr (by first | rfl | decide) (fun t ht hW => ⟨_, rfl, (if_neg c9).symm, ht⟩) (fun q hq => absurd hq List.not_mem_nil) dX1_isComplete_17
set_option maxHeartbeats 4000000 in
set_option maxRecDepth 100000 in
theorem metX1_largestNext (l : Launch) (D : va_G) (r la : Nat) (bs : Nat → Nat) (cA : ClassId) (n : Nat) (hn : n ≤ 8) (wm df : Int32) (q : UInt64) (wd zs : Nat → Int32) (h : Nat → UInt64)  : Met l yX1_largestNext wsX1_largestNext { frames := 0, cells := 0, slots := 0, locals := 0 } (Pr D [(cA, .object "VinegarLoft$Barrel")] [.ref r] (rowW r la bs cA (nI n) wm df q wd zs h)) (vp_Si (fun r : Int32 => r = lgN zs n)) 0 0 (fun _ => False) := by
  refine Met.ofW (cc := cX1_largestNext) (maxL := 1) (ret := (some .int)) (by decide) rfl ?_
  intro p e s m args below meth c s₁ B hml hv
  obtain ⟨rfl, hP, hK⟩ := hv
  have hx := B.exec
  have hb := B.bytes
  have hr := B.returns
  have hts := atoms_spec (ws := wsX1_largestNext) B.pre
  have hown : s.vm.findClass RX1 = some m.cls := findClass_of_methodNamed B.named
  have hlocks := B.notSynchronized
  have hl := lv_entry ([.ref r]) (n := 1) (Nat.le_of_ble_eq_true rfl)
  rw [lg_entry_eq]
  generalize (lg_sl ([.ref r]) ++ List.replicate (1 - (lg_sl ([.ref r])).length) Slot.unset).toArray = ls at hl ⊢
  have hl : lv_has ls 1 [(0, .ref r)] := hl
  refine lv_aload_n hx hb dX1_largestNext_0 rfl (lv_at hl 0 rfl) ?_
  refine va_get (D := D) (ci := 1) (v := .int (nI n)) (C := RX1) (T := TX1) (N := 5) hx hb hts (by decide +kernel) hown hK hP (0) rfl rfl 1 (by decide) (hts (.fieldLink RX1 18 "VinegarLoft$Row" "count" "I") (by decide +kernel)) (fun _ h9 => h9) rfl dX1_largestNext_1 ?_
  refine lv_if_le (tgt := 26) hx hb dX1_largestNext_4 (by decide) (fun c4 => ?_) (fun c4 => ?_)
  · have h0 : n = 0 := (nI_le0 (by omega)).mp c4
    refine lv_bipush (v := 100) hx hb dX1_largestNext_26 (by decide) ?_
    exact W.iret hx hb hr (fun t ht hW => ⟨_, rfl, by unfold lgN; rw [if_pos h0], ht⟩) (fun q hq => absurd hq List.not_mem_nil) dX1_largestNext_28
  · have h0 : n ≠ 0 := fun h => c4 ((nI_le0 (by omega)).mpr h)
    refine lv_aload_n hx hb dX1_largestNext_7 rfl (lv_at hl 0 rfl) ?_
    refine va_get (D := D) (ci := 1) (v := .ref la) (C := RX1) (T := TX1) (N := 5) hx hb hts (by decide +kernel) hown hK hP (0) rfl rfl 0 (by decide) (hts (.fieldLink RX1 11 "VinegarLoft$Row" "line" "[LVinegarLoft$Barrel;") (by decide +kernel)) (fun _ h9 => h9) rfl dX1_largestNext_8 ?_
    refine lv_aload_n hx hb dX1_largestNext_11 rfl (lv_at hl 0 rfl) ?_
    refine va_get (D := D) (ci := 1) (v := .int (nI n)) (C := RX1) (T := TX1) (N := 5) hx hb hts (by decide +kernel) hown hK hP (0) rfl rfl 1 (by decide) (hts (.fieldLink RX1 18 "VinegarLoft$Row" "count" "I") (by decide +kernel)) (fun _ h9 => h9) rfl dX1_largestNext_12 ?_
    refine lv_iconst (v := 1) hx hb dX1_largestNext_15 (by decide) ?_
    refine lv_isub hx hb dX1_largestNext_16 ?_
    refine kx_ald hx hb hK hP (1) 0 rfl rfl (j := n - 1) (nI_p (by omega)) (by omega) dX1_largestNext_17 ?_
    refine va_get (D := D) (ci := 0) (v := .int (zs (n - 1))) (C := RX0) (T := TX0) (N := 6) hx hb hts (by decide +kernel) hown hK hP (2 + (n - 1)) (rowW_b (by omega)) rfl 1 (by decide) (hts (.fieldLink RX1 36 "VinegarLoft$Barrel" "size" "I") (by decide +kernel)) (fun _ h9 => h9) rfl dX1_largestNext_18 ?_
    refine lv_iconst (v := 1) hx hb dX1_largestNext_21 (by decide) ?_
    refine lv_isub hx hb dX1_largestNext_22 ?_
    refine lv_goto (tgt := 28) hx hb dX1_largestNext_23 (by decide) ?_
    exact W.iret hx hb hr (fun t ht hW => ⟨_, rfl, by unfold lgN; rw [if_neg h0], ht⟩) (fun q hq => absurd hq List.not_mem_nil) dX1_largestNext_28
set_option maxHeartbeats 4000000 in
set_option maxRecDepth 100000 in
theorem metX1_draughtNow (l : Launch) (D : va_G) (r la : Nat) (bs : Nat → Nat) (cA : ClassId) (n : Nat) (hn : n ≤ 8) (wm df : Int32) (q : UInt64) (wd zs : Nat → Int32) (h : Nat → UInt64) (hd : drok wm) : Met l yX1_draughtNow wsX1_draughtNow { frames := 0, cells := 0, slots := 0, locals := 0 } (Pr D [(cA, .object "VinegarLoft$Barrel")] [.ref r] (rowW r la bs cA (nI n) wm df q wd zs h)) (vp_Sd (fun r : UInt64 => r = drv wm)) 0 0 (fun _ => False) := by
  refine Met.ofW (cc := cX1_draughtNow) (maxL := 3) (ret := (some .double)) (by decide) rfl ?_
  intro p e s m args below meth c s₁ B hml hv
  obtain ⟨rfl, hP, hK⟩ := hv
  have hx := B.exec
  have hb := B.bytes
  have hr := B.returns
  have hts := atoms_spec (ws := wsX1_draughtNow) B.pre
  have hown : s.vm.findClass RX1 = some m.cls := findClass_of_methodNamed B.named
  have hlocks := B.notSynchronized
  have hl := lv_entry ([.ref r]) (n := 3) (Nat.le_of_ble_eq_true rfl)
  rw [lg_entry_eq]
  generalize (lg_sl ([.ref r]) ++ List.replicate (3 - (lg_sl ([.ref r])).length) Slot.unset).toArray = ls at hl ⊢
  have hl : lv_has ls 3 [(0, .ref r)] := hl
  obtain ⟨d1, d2, d3⟩ := hd
  refine kd_1 hx hb dX1_draughtNow_0 ?_
  refine lv_ldc2d hx hb hown (hts (.constantDouble RX1 96 4587366580439587226) (by decide +kernel)) dX1_draughtNow_1 ?_
  refine lv_aload_n hx hb dX1_draughtNow_4 rfl (lv_at hl 0 rfl) ?_
  refine va_get (D := D) (ci := 1) (v := .int wm) (C := RX1) (T := TX1) (N := 5) hx hb hts (by decide +kernel) hown hK hP (0) rfl rfl 2 (by decide) (hts (.fieldLink RX1 22 "VinegarLoft$Row" "warmth" "I") (by decide +kernel)) (fun _ h9 => h9) rfl dX1_draughtNow_5 ?_
  refine lv_bipush (v := 18) hx hb dX1_draughtNow_8 (by decide) ?_
  refine lv_isub hx hb dX1_draughtNow_10 ?_
  refine lv_i2d hx hb dX1_draughtNow_11 ?_
  refine lv_dmul hx hb dX1_draughtNow_12 d1 ?_
  refine lv_dadd hx hb dX1_draughtNow_13 d2 ?_
  refine lv_dstore_n (lv' := [(1, .double (drw wm)), (0, .ref r)]) hx hb dX1_draughtNow_14 rfl hl (by decide) rfl (fun ls hl => ?_)
  refine lv_dload_n hx hb dX1_draughtNow_15 rfl (lv_at hl 0 rfl) ?_
  refine lv_ldc2d hx hb hown (hts (.constantDouble RX1 98 4596373779694328218) (by decide +kernel)) dX1_draughtNow_16 ?_
  refine kd_ge (tgt := 29) hx hb dX1_draughtNow_19 dX1_draughtNow_20 (by decide) d3 (fun c19 => ?_) (fun c19 => ?_)
  · refine lv_dload_n hx hb dX1_draughtNow_29 rfl (lv_at hl 0 rfl) ?_
    exact W.dret hx hb hr (fun t ht hW => ⟨_, rfl, by unfold drv; rw [if_neg c19], ht⟩) (fun q hq => absurd hq List.not_mem_nil) dX1_draughtNow_30
  · refine lv_ldc2d hx hb hown (hts (.constantDouble RX1 98 4596373779694328218) (by decide +kernel)) dX1_draughtNow_23 ?_
    refine lv_goto (tgt := 30) hx hb dX1_draughtNow_26 (by decide) ?_
    exact W.dret hx hb hr (fun t ht hW => ⟨_, rfl, by unfold drv; rw [if_pos c19], ht⟩) (fun q hq => absurd hq List.not_mem_nil) dX1_draughtNow_30
theorem emp0 {x : UInt64} : emp x = 0 ↔ FP.dcmp x 0 = some .gt := by
  unfold emp
  constructor
  · intro h
    refine Classical.byContradiction fun h2 => ?_
    rw [if_neg h2] at h
    exact absurd h (by decide)
  · intro h; rw [if_pos h]
theorem nn_0 : NN 0 := by unfold NN; decide +kernel
theorem elG_nn {h : Nat → UInt64} {n : Nat} (hN : NNr n h) {k : Nat} (hk : k ≤ n) : NN (elG h (elO h k)) := by
  cases ho : elO h k with
  | none => exact nn_0
  | some b => exact (hN b (by have := elO_lt h k b ho; omega)).2
theorem elO_y {h : Nat → UInt64} {n : Nat} (hN : NNr n h) {i : Nat} (hi : i < n) (h1 : FP.dcmp (h i) 0 = some .gt) (h2 : FP.dcmp (h (8 + i)) (elG h (elO h i)) ≠ some .lt) : elO h (i + 1) = some i := by
  show (if elt h i (elO h i) = true then some i else elO h i) = some i
  refine if_pos ?_
  unfold elt
  rw [decide_eq_true h1, Bool.true_and]
  cases ho : elO h i with
  | none => rfl
  | some b => rw [ho] at h2; exact decide_eq_true h2
theorem elO_e {h : Nat → UInt64} {i : Nat} (h1 : FP.dcmp (h i) 0 ≠ some .gt) : elO h (i + 1) = elO h i := by
  show (if elt h i (elO h i) = true then some i else elO h i) = elO h i
  refine if_neg ?_
  unfold elt
  rw [decide_eq_false h1, Bool.false_and]
  exact fun h => nomatch h
theorem elO_n {h : Nat → UInt64} {n : Nat} (hN : NNr n h) {i : Nat} (hi : i < n) (h2 : FP.dcmp (h (8 + i)) (elG h (elO h i)) = some .lt) : elO h (i + 1) = elO h i := by
  show (if elt h i (elO h i) = true then some i else elO h i) = elO h i
  refine if_neg ?_
  unfold elt
  cases ho : elO h i with
  | none =>
    rw [ho] at h2
    have h3 := ((cmp_nn (hN i hi).2 (show NN (elG h none) from nn_0)).1).mp h2
    have h4 : (elG h none).toNat = 0 := by
      show (0 : UInt64).toNat = 0
      decide
    omega
  | some b =>
    rw [ho] at h2
    show ¬ (decide (FP.dcmp (h i) 0 = some .gt) && decide (FP.dcmp (h (8 + i)) (h (8 + b)) ≠ some .lt)) = true
    rw [show decide (FP.dcmp (h (8 + i)) (h (8 + b)) ≠ some .lt) = false from decide_eq_false (fun h5 => h5 h2), Bool.and_false]
    exact fun h => nomatch h
theorem nn_ne0 {x : UInt64} (h : NN x) : FP.dcmp x 0 ≠ none := cmp_ne h.ne ne_0
theorem nI_m1 {b : Nat} (hb : b < 8) : ¬ nI b = -1 := fun e => nomatch ((encO_m1 (o := some b) (fun x hx => by cases hx; exact hb)).mp e)
set_option maxHeartbeats 4000000 in
set_option maxRecDepth 100000 in
/-- eldest() -/
theorem metX1_eldest (l : Launch) (D : va_G) (r la : Nat) (bs : Nat → Nat) (cA : ClassId) (n : Nat) (hn : n ≤ 8) (wm df : Int32) (q : UInt64) (wd zs : Nat → Int32) (h : Nat → UInt64) (hN : NNr n h) : Met l yX1_eldest wsX1_eldest { frames := 1, cells := 0, slots := 0, locals := 20 } (Pr D [(cA, .object "VinegarLoft$Barrel")] [.ref r] (rowW r la bs cA (nI n) wm df q wd zs h)) (vp_Si (fun r : Int32 => r = encO (elO h n))) 0 0 (fun _ => False) := by
  refine Met.ofW (cc := cX1_eldest) (maxL := 5) (ret := (some .int)) (by decide) rfl ?_
  intro p e s m args below meth c s₁ B hml hv
  obtain ⟨rfl, hP, hK⟩ := hv
  have hx := B.exec
  have hb := B.bytes
  have hr := B.returns
  have hts := atoms_spec (ws := wsX1_eldest) B.pre
  have hown : s.vm.findClass RX1 = some m.cls := findClass_of_methodNamed B.named
  have hlocks := B.notSynchronized
  have hl := lv_entry ([.ref r]) (n := 5) (Nat.le_of_ble_eq_true rfl)
  rw [lg_entry_eq]
  generalize (lg_sl ([.ref r]) ++ List.replicate (5 - (lg_sl ([.ref r])).length) Slot.unset).toArray = ls at hl ⊢
  have hl : lv_has ls 5 [(0, .ref r)] := hl
  refine lv_iconst (v := (-1)) hx hb dX1_eldest_0 (by decide) ?_
  refine lv_istore_n (lv' := [(1, .int (-1)), (0, .ref r)]) hx hb dX1_eldest_1 rfl hl (by decide) rfl (fun ls hl => ?_)
  refine kd_0 hx hb dX1_eldest_2 ?_
  refine lv_dstore_n (lv' := [(2, .double 0), (1, .int (-1)), (0, .ref r)]) hx hb dX1_eldest_3 rfl hl (by decide) rfl (fun ls hl => ?_)
  refine lv_iconst (v := 0) hx hb dX1_eldest_4 (by decide) ?_
  refine lv_istore (lv' := [(4, .int 0), (2, .double 0), (1, .int (-1)), (0, .ref r)]) hx hb dX1_eldest_5 hl (by decide) rfl (fun ls hl => ?_)
  refine kW_upR (n) (fun i ls => lv_has ls 5 [(4, .int (nI i)), (2, .double (elG h (elO h i))), (1, .int (encO (elO h i))), (0, .ref r)]) (fun i ls hi hl ih => ?_) (fun ls hl => ?_) (lv_sub hl [0, 1, 2, 3] (rfl))
  · refine lv_iload hx hb dX1_eldest_7 (lv_at hl 0 rfl) ?_
    refine lv_aload_n hx hb dX1_eldest_9 rfl (lv_at hl 3 rfl) ?_
    refine va_get (D := D) (ci := 1) (v := .int (nI n)) (C := RX1) (T := TX1) (N := 5) hx hb hts (by decide +kernel) hown hK hP (0) rfl rfl 1 (by decide) (hts (.fieldLink RX1 18 "VinegarLoft$Row" "count" "I") (by decide +kernel)) (fun _ h9 => h9) rfl dX1_eldest_10 ?_
    refine lv_icmp_ge (tgt := 64) hx hb dX1_eldest_13 (by decide) (fun c13 => absurd c13 (nI_ge hi (by omega))) (fun c13 => ?_)
    refine lv_aload_n hx hb dX1_eldest_16 rfl (lv_at hl 3 rfl) ?_
    refine va_get (D := D) (ci := 1) (v := .ref la) (C := RX1) (T := TX1) (N := 5) hx hb hts (by decide +kernel) hown hK hP (0) rfl rfl 0 (by decide) (hts (.fieldLink RX1 11 "VinegarLoft$Row" "line" "[LVinegarLoft$Barrel;") (by decide +kernel)) (fun _ h9 => h9) rfl dX1_eldest_17 ?_
    refine lv_iload hx hb dX1_eldest_20 (lv_at hl 0 rfl) ?_
    refine kx_ald hx hb hK hP (1) 0 rfl rfl (j := i) rfl (by omega) dX1_eldest_22 ?_
    refine kr_i (W.runV (As := []) (rest := []) ⟨hx, hb, hml, hown, hts⟩ (metX0_isEmpty l D (bs i) (wd i) (zs i) (h i) (h (8 + i)) (h (16 + i)) (h (24 + i)) (nn_ne0 (hN i hi).1)) (cwV 0 hts gX1_eldest_X0_isEmpty rfl rfl rfl (by decide +kernel) ⟨Nat.le_of_ble_eq_true rfl, Nat.le_of_ble_eq_true rfl⟩) (prV 0 0 RX0 TX0 6 rfl rfl (vj_oP (rowW_b (show i < 8 by omega)) hP) (hK.sub [] rfl)) rfl rfl hl.1 rfl (lv_room (Nat.le_of_ble_eq_true rfl)) dX1_eldest_23 ⟨Nat.le_of_ble_eq_true rfl, Nat.le_of_ble_eq_true rfl⟩) ?_
    refine lv_if_ne (tgt := 58) hx hb dX1_eldest_26 (by decide) (fun c26 => ?_) (fun c26 => ?_)
    · refine lv_iinc (v := nI (i + 1)) (lv' := [(4, .int (nI (i + 1))), (2, .double (elG h (elO h i))), (1, .int (encO (elO h i))), (0, .ref r)]) hx hb dX1_eldest_58 hl (k := 0) rfl (nI_1 i) (by decide) rfl (fun ls hl => ?_)
      refine lv_goto (tgt := 7) hx hb dX1_eldest_61 (by decide) ?_
      have e1 : elO h (i + 1) = elO h i := elO_e (fun h9 => c26 (emp0.mpr h9))
      exact ih ls (lv_sub hl [0, 1, 2, 3] (by rw [e1]; rfl))
    · refine lv_aload_n hx hb dX1_eldest_29 rfl (lv_at hl 3 rfl) ?_
      refine va_get (D := D) (ci := 1) (v := .ref la) (C := RX1) (T := TX1) (N := 5) hx hb hts (by decide +kernel) hown hK hP (0) rfl rfl 0 (by decide) (hts (.fieldLink RX1 11 "VinegarLoft$Row" "line" "[LVinegarLoft$Barrel;") (by decide +kernel)) (fun _ h9 => h9) rfl dX1_eldest_30 ?_
      refine lv_iload hx hb dX1_eldest_33 (lv_at hl 0 rfl) ?_
      refine kx_ald hx hb hK hP (1) 0 rfl rfl (j := i) rfl (by omega) dX1_eldest_35 ?_
      refine va_get (D := D) (ci := 0) (v := .double (h (8 + i))) (C := RX0) (T := TX0) (N := 6) hx hb hts (by decide +kernel) hown hK hP (2 + i) (rowW_b (show i < 8 by omega)) rfl 3 (by decide) (hts (.fieldLink RX1 66 "VinegarLoft$Barrel" "age" "D") (by decide +kernel)) (fun _ h9 => h9) rfl dX1_eldest_36 ?_
      refine lv_dload_n hx hb dX1_eldest_39 rfl (lv_at hl 1 rfl) ?_
      refine kd_lt (tgt := 58) hx hb dX1_eldest_40 dX1_eldest_41 (by decide) (cmp_ne (hN i hi).2.ne (elG_nn hN (by omega)).ne) (fun c40 => ?_) (fun c40 => ?_)
      · refine lv_iinc (v := nI (i + 1)) (lv' := [(4, .int (nI (i + 1))), (2, .double (elG h (elO h i))), (1, .int (encO (elO h i))), (0, .ref r)]) hx hb dX1_eldest_58 hl (k := 0) rfl (nI_1 i) (by decide) rfl (fun ls hl => ?_)
        refine lv_goto (tgt := 7) hx hb dX1_eldest_61 (by decide) ?_
        have e1 : elO h (i + 1) = elO h i := elO_n hN hi c40
        exact ih ls (lv_sub hl [0, 1, 2, 3] (by rw [e1]; rfl))
      · refine lv_iload hx hb dX1_eldest_44 (lv_at hl 0 rfl) ?_
        refine lv_istore_n (lv' := [(1, .int (nI i)), (4, .int (nI i)), (2, .double (elG h (elO h i))), (0, .ref r)]) hx hb dX1_eldest_46 rfl hl (by decide) rfl (fun ls hl => ?_)
        refine lv_aload_n hx hb dX1_eldest_47 rfl (lv_at hl 3 rfl) ?_
        refine va_get (D := D) (ci := 1) (v := .ref la) (C := RX1) (T := TX1) (N := 5) hx hb hts (by decide +kernel) hown hK hP (0) rfl rfl 0 (by decide) (hts (.fieldLink RX1 11 "VinegarLoft$Row" "line" "[LVinegarLoft$Barrel;") (by decide +kernel)) (fun _ h9 => h9) rfl dX1_eldest_48 ?_
        refine lv_iload hx hb dX1_eldest_51 (lv_at hl 1 rfl) ?_
        refine kx_ald hx hb hK hP (1) 0 rfl rfl (j := i) rfl (by omega) dX1_eldest_53 ?_
        refine va_get (D := D) (ci := 0) (v := .double (h (8 + i))) (C := RX0) (T := TX0) (N := 6) hx hb hts (by decide +kernel) hown hK hP (2 + i) (rowW_b (show i < 8 by omega)) rfl 3 (by decide) (hts (.fieldLink RX1 66 "VinegarLoft$Barrel" "age" "D") (by decide +kernel)) (fun _ h9 => h9) rfl dX1_eldest_54 ?_
        refine lv_dstore_n (lv' := [(2, .double (h (8 + i))), (1, .int (nI i)), (4, .int (nI i)), (0, .ref r)]) hx hb dX1_eldest_57 rfl hl (by decide) rfl (fun ls hl => ?_)
        refine lv_iinc (v := nI (i + 1)) (lv' := [(4, .int (nI (i + 1))), (2, .double (h (8 + i))), (1, .int (nI i)), (0, .ref r)]) hx hb dX1_eldest_58 hl (k := 2) rfl (nI_1 i) (by decide) rfl (fun ls hl => ?_)
        refine lv_goto (tgt := 7) hx hb dX1_eldest_61 (by decide) ?_
        have e1 : elO h (i + 1) = some i := elO_y hN hi (emp0.mp c26) c40
        exact ih ls (lv_sub hl [0, 1, 2, 3] (by rw [e1]; rfl))
  · refine lv_iload hx hb dX1_eldest_7 (lv_at hl 0 rfl) ?_
    refine lv_aload_n hx hb dX1_eldest_9 rfl (lv_at hl 3 rfl) ?_
    refine va_get (D := D) (ci := 1) (v := .int (nI n)) (C := RX1) (T := TX1) (N := 5) hx hb hts (by decide +kernel) hown hK hP (0) rfl rfl 1 (by decide) (hts (.fieldLink RX1 18 "VinegarLoft$Row" "count" "I") (by decide +kernel)) (fun _ h9 => h9) rfl dX1_eldest_10 ?_
    refine lv_icmp_ge (tgt := 64) hx hb dX1_eldest_13 (by decide) (fun c13 => ?_) (fun c13 => absurd (nI_le (Nat.le_refl n) (by omega)) c13)
    refine lv_iload_n hx hb dX1_eldest_64 rfl (lv_at hl 2 rfl) ?_
    exact W.iret hx hb hr (fun t ht hW => ⟨_, rfl, rfl, ht⟩) (fun q hq => absurd hq List.not_mem_nil) dX1_eldest_65
set_option maxHeartbeats 4000000 in
set_option maxRecDepth 100000 in
/-- greatestAge() -/
theorem metX1_greatestAge (l : Launch) (D : va_G) (r la : Nat) (bs : Nat → Nat) (cA : ClassId) (n : Nat) (hn : n ≤ 8) (wm df : Int32) (q : UInt64) (wd zs : Nat → Int32) (h : Nat → UInt64) (hN : NNr n h) : Met l yX1_greatestAge wsX1_greatestAge { frames := 2, cells := 0, slots := 0, locals := 44 } (Pr D [(cA, .object "VinegarLoft$Barrel")] [.ref r] (rowW r la bs cA (nI n) wm df q wd zs h)) (vp_Sd (fun r : UInt64 => r = elG h (elO h n))) 0 0 (fun _ => False) := by
  refine Met.ofW (cc := cX1_greatestAge) (maxL := 2) (ret := (some .double)) (by decide) rfl ?_
  intro p e s m args below meth c s₁ B hml hv
  obtain ⟨rfl, hP, hK⟩ := hv
  have hx := B.exec
  have hb := B.bytes
  have hr := B.returns
  have hts := atoms_spec (ws := wsX1_greatestAge) B.pre
  have hown : s.vm.findClass RX1 = some m.cls := findClass_of_methodNamed B.named
  have hlocks := B.notSynchronized
  have hl := lv_entry ([.ref r]) (n := 2) (Nat.le_of_ble_eq_true rfl)
  rw [lg_entry_eq]
  generalize (lg_sl ([.ref r]) ++ List.replicate (2 - (lg_sl ([.ref r])).length) Slot.unset).toArray = ls at hl ⊢
  have hl : lv_has ls 2 [(0, .ref r)] := hl
  refine lv_aload_n hx hb dX1_greatestAge_0 rfl (lv_at hl 0 rfl) ?_
  refine kr_i (W.runV (As := []) (rest := []) ⟨hx, hb, hml, hown, hts⟩ (metX1_eldest l D r la bs cA n hn wm df q wd zs h hN) (cwV 0 hts gX1_greatestAge_X1_eldest rfl rfl rfl (by decide +kernel) ⟨Nat.le_of_ble_eq_true rfl, Nat.le_of_ble_eq_true rfl⟩) (prV 1 0 RX1 TX1 5 rfl rfl hP hK) rfl rfl hl.1 rfl (lv_room (Nat.le_of_ble_eq_true rfl)) dX1_greatestAge_1 ⟨Nat.le_of_ble_eq_true rfl, Nat.le_of_ble_eq_true rfl⟩) ?_
  rcases ho : elO h n with _ | b
  · refine lv_istore_n (lv' := [(1, .int (-1)), (0, .ref r)]) hx hb dX1_greatestAge_4 rfl hl (by decide) rfl (fun ls hl => ?_)
    refine lv_iload_n hx hb dX1_greatestAge_5 rfl (lv_at hl 0 rfl) ?_
    refine lv_iconst (v := (-1)) hx hb dX1_greatestAge_6 (by decide) ?_
    refine lv_icmp_ne (tgt := 14) hx hb dX1_greatestAge_7 (by decide) (fun c7 => absurd c7 (fun h9 => h9 rfl)) (fun c7 => ?_)
    refine kd_0 hx hb dX1_greatestAge_10 ?_
    refine lv_goto (tgt := 23) hx hb dX1_greatestAge_11 (by decide) ?_
    exact W.dret hx hb hr (fun t ht hW => ⟨_, rfl, rfl, ht⟩) (fun q hq => absurd hq List.not_mem_nil) dX1_greatestAge_23
  · have hbn : b < n := elO_lt h n b ho
    refine lv_istore_n (lv' := [(1, .int (nI b)), (0, .ref r)]) hx hb dX1_greatestAge_4 rfl hl (by decide) rfl (fun ls hl => ?_)
    refine lv_iload_n hx hb dX1_greatestAge_5 rfl (lv_at hl 0 rfl) ?_
    refine lv_iconst (v := (-1)) hx hb dX1_greatestAge_6 (by decide) ?_
    refine lv_icmp_ne (tgt := 14) hx hb dX1_greatestAge_7 (by decide) (fun c7 => ?_) (fun c7 => absurd c7 (nI_m1 (by omega)))
    refine lv_aload_n hx hb dX1_greatestAge_14 rfl (lv_at hl 1 rfl) ?_
    refine va_get (D := D) (ci := 1) (v := .ref la) (C := RX1) (T := TX1) (N := 5) hx hb hts (by decide +kernel) hown hK hP (0) rfl rfl 0 (by decide) (hts (.fieldLink RX1 11 "VinegarLoft$Row" "line" "[LVinegarLoft$Barrel;") (by decide +kernel)) (fun _ h9 => h9) rfl dX1_greatestAge_15 ?_
    refine lv_iload_n hx hb dX1_greatestAge_18 rfl (lv_at hl 0 rfl) ?_
    refine kx_ald hx hb hK hP (1) 0 rfl rfl (j := b) rfl (by omega) dX1_greatestAge_19 ?_
    refine va_get (D := D) (ci := 0) (v := .double (h (8 + b))) (C := RX0) (T := TX0) (N := 6) hx hb hts (by decide +kernel) hown hK hP (2 + b) (rowW_b (show b < 8 by omega)) rfl 3 (by decide) (hts (.fieldLink RX1 66 "VinegarLoft$Barrel" "age" "D") (by decide +kernel)) (fun _ h9 => h9) rfl dX1_greatestAge_20 ?_
    exact W.dret hx hb hr (fun t ht hW => ⟨_, rfl, rfl, ht⟩) (fun q hq => absurd hq List.not_mem_nil) dX1_greatestAge_23
theorem rdv_none {h : Nat → UInt64} {n : Nat} {df : Int32} {q : UInt64} (ho : elO h n = none) : rdv h n df q = 0 := by unfold rdv; rw [ho]
theorem rdv_some {h : Nat → UInt64} {n : Nat} {df : Int32} {q : UInt64} {b : Nat} (ho : elO h n = some b) : rdv h n df q = if nI b = df then (if FP.dcmp (h (8 + b)) 4622945017495814144 = some .lt ∨ FP.dcmp (h (24 + b)) 4627730092099895296 = some .lt then 0 else if FP.dcmp (leB h q b) 0 = some .gt then FP.d2i (FP.ddiv (leB h q b) 4591870180066957722) else 0) else 0 := by unfold rdv; rw [ho]
set_option maxHeartbeats 4000000 in
set_option maxRecDepth 100000 in
/-- bottlesReady() -/
theorem metX1_bottlesReady (l : Launch) (D : va_G) (r la : Nat) (bs : Nat → Nat) (cA : ClassId) (n : Nat) (hn : n ≤ 8) (wm df : Int32) (q : UInt64) (wd zs : Nat → Int32) (h : Nat → UInt64) (hN : NNr n h) (hr9 : rdok h n q) : Met l yX1_bottlesReady wsX1_bottlesReady { frames := 2, cells := 0, slots := 0, locals := 44 } (Pr D [(cA, .object "VinegarLoft$Barrel")] [.ref r] (rowW r la bs cA (nI n) wm df q wd zs h)) (vp_Si (fun r : Int32 => r = rdv h n df q)) 0 0 (fun _ => False) := by
  refine Met.ofW (cc := cX1_bottlesReady) (maxL := 5) (ret := (some .int)) (by decide) rfl ?_
  intro p e s m args below meth c s₁ B hml hv
  obtain ⟨rfl, hP, hK⟩ := hv
  have hx := B.exec
  have hb := B.bytes
  have hr := B.returns
  have hts := atoms_spec (ws := wsX1_bottlesReady) B.pre
  have hown : s.vm.findClass RX1 = some m.cls := findClass_of_methodNamed B.named
  have hlocks := B.notSynchronized
  have hl := lv_entry ([.ref r]) (n := 5) (Nat.le_of_ble_eq_true rfl)
  rw [lg_entry_eq]
  generalize (lg_sl ([.ref r]) ++ List.replicate (5 - (lg_sl ([.ref r])).length) Slot.unset).toArray = ls at hl ⊢
  have hl : lv_has ls 5 [(0, .ref r)] := hl
  refine lv_aload_n hx hb dX1_bottlesReady_0 rfl (lv_at hl 0 rfl) ?_
  refine kr_i (W.runV (As := []) (rest := []) ⟨hx, hb, hml, hown, hts⟩ (metX1_eldest l D r la bs cA n hn wm df q wd zs h hN) (cwV 0 hts gX1_bottlesReady_X1_eldest rfl rfl rfl (by decide +kernel) ⟨Nat.le_of_ble_eq_true rfl, Nat.le_of_ble_eq_true rfl⟩) (prV 1 0 RX1 TX1 5 rfl rfl hP hK) rfl rfl hl.1 rfl (lv_room (Nat.le_of_ble_eq_true rfl)) dX1_bottlesReady_1 ⟨Nat.le_of_ble_eq_true rfl, Nat.le_of_ble_eq_true rfl⟩) ?_
  rcases ho : elO h n with _ | b
  · refine lv_istore_n (lv' := [(1, .int (-1)), (0, .ref r)]) hx hb dX1_bottlesReady_4 rfl hl (by decide) rfl (fun ls hl => ?_)
    refine lv_iload_n hx hb dX1_bottlesReady_5 rfl (lv_at hl 0 rfl) ?_
    refine lv_iconst (v := (-1)) hx hb dX1_bottlesReady_6 (by decide) ?_
    refine lv_icmp_eq (tgt := 18) hx hb dX1_bottlesReady_7 (by decide) (fun c7 => ?_) (fun c7 => absurd rfl c7)
    refine lv_iconst (v := 0) hx hb dX1_bottlesReady_18 (by decide) ?_
    exact W.iret hx hb hr (fun t ht hW => ⟨_, rfl, (rdv_none ho).symm, ht⟩) (fun q hq => absurd hq List.not_mem_nil) dX1_bottlesReady_19
  · have hbn : b < n := elO_lt h n b ho
    refine lv_istore_n (lv' := [(1, .int (nI b)), (0, .ref r)]) hx hb dX1_bottlesReady_4 rfl hl (by decide) rfl (fun ls hl => ?_)
    refine lv_iload_n hx hb dX1_bottlesReady_5 rfl (lv_at hl 0 rfl) ?_
    refine lv_iconst (v := (-1)) hx hb dX1_bottlesReady_6 (by decide) ?_
    refine lv_icmp_eq (tgt := 18) hx hb dX1_bottlesReady_7 (by decide) (fun c7 => absurd c7 (nI_m1 (by omega))) (fun c7 => ?_)
    refine lv_iload_n hx hb dX1_bottlesReady_10 rfl (lv_at hl 0 rfl) ?_
    refine lv_aload_n hx hb dX1_bottlesReady_11 rfl (lv_at hl 1 rfl) ?_
    refine va_get (D := D) (ci := 1) (v := .int df) (C := RX1) (T := TX1) (N := 5) hx hb hts (by decide +kernel) hown hK hP (0) rfl rfl 3 (by decide) (hts (.fieldLink RX1 25 "VinegarLoft$Row" "drawnFrom" "I") (by decide +kernel)) (fun _ h9 => h9) rfl dX1_bottlesReady_12 ?_
    refine lv_icmp_eq (tgt := 20) hx hb dX1_bottlesReady_15 (by decide) (fun c15 => ?_) (fun c15 => ?_)
    · obtain ⟨r1, r2, r3, r4, r5⟩ := hr9 b hbn
      refine lv_aload_n hx hb dX1_bottlesReady_20 rfl (lv_at hl 1 rfl) ?_
      refine va_get (D := D) (ci := 1) (v := .ref la) (C := RX1) (T := TX1) (N := 5) hx hb hts (by decide +kernel) hown hK hP (0) rfl rfl 0 (by decide) (hts (.fieldLink RX1 11 "VinegarLoft$Row" "line" "[LVinegarLoft$Barrel;") (by decide +kernel)) (fun _ h9 => h9) rfl dX1_bottlesReady_21 ?_
      refine lv_iload_n hx hb dX1_bottlesReady_24 rfl (lv_at hl 0 rfl) ?_
      refine kx_ald hx hb hK hP (1) 0 rfl rfl (j := b) rfl (by omega) dX1_bottlesReady_25 ?_
      refine lv_astore_n (lv' := [(2, .ref (bs b)), (1, .int (nI b)), (0, .ref r)]) hx hb dX1_bottlesReady_26 rfl hl (by decide) rfl (fun ls hl => ?_)
      refine lv_aload_n hx hb dX1_bottlesReady_27 rfl (lv_at hl 0 rfl) ?_
      refine va_get (D := D) (ci := 0) (v := .double (h (8 + b))) (C := RX0) (T := TX0) (N := 6) hx hb hts (by decide +kernel) hown hK hP (2 + b) (rowW_b (show b < 8 by omega)) rfl 3 (by decide) (hts (.fieldLink RX1 66 "VinegarLoft$Barrel" "age" "D") (by decide +kernel)) (fun _ h9 => h9) rfl dX1_bottlesReady_28 ?_
      refine lv_ldc2d hx hb hown (hts (.constantDouble RX1 100 4622945017495814144) (by decide +kernel)) dX1_bottlesReady_31 ?_
      refine kd_lt (tgt := 49) hx hb dX1_bottlesReady_34 dX1_bottlesReady_35 (by decide) r1 (fun c34 => ?_) (fun c34 => ?_)
      · refine lv_iconst (v := 0) hx hb dX1_bottlesReady_49 (by decide) ?_
        exact W.iret hx hb hr (fun t ht hW => ⟨_, rfl, by rw [rdv_some ho, if_pos c15, if_pos (Or.inl c34)], ht⟩) (fun q hq => absurd hq List.not_mem_nil) dX1_bottlesReady_50
      · refine lv_aload_n hx hb dX1_bottlesReady_38 rfl (lv_at hl 0 rfl) ?_
        refine va_get (D := D) (ci := 0) (v := .double (h (24 + b))) (C := RX0) (T := TX0) (N := 6) hx hb hts (by decide +kernel) hown hK hP (2 + b) (rowW_b (show b < 8 by omega)) rfl 5 (by decide) (hts (.fieldLink RX1 72 "VinegarLoft$Barrel" "sugar" "D") (by decide +kernel)) (fun _ h9 => h9) rfl dX1_bottlesReady_39 ?_
        refine lv_ldc2d hx hb hown (hts (.constantDouble RX1 102 4627730092099895296) (by decide +kernel)) dX1_bottlesReady_42 ?_
        refine kd_ge (tgt := 51) hx hb dX1_bottlesReady_45 dX1_bottlesReady_46 (by decide) r2 (fun c45 => ?_) (fun c45 => ?_)
        · refine lv_aload_n hx hb dX1_bottlesReady_51 rfl (lv_at hl 2 rfl) ?_
          refine va_get (D := D) (ci := 1) (v := .double q) (C := RX1) (T := TX1) (N := 5) hx hb hts (by decide +kernel) hown hK hP (0) rfl rfl 4 (by decide) (hts (.fieldLink RX1 28 "VinegarLoft$Row" "mayBeDrawn" "D") (by decide +kernel)) (fun _ h9 => h9) rfl dX1_bottlesReady_52 ?_
          refine lv_aload_n hx hb dX1_bottlesReady_55 rfl (lv_at hl 0 rfl) ?_
          refine va_get (D := D) (ci := 0) (v := .double (h b)) (C := RX0) (T := TX0) (N := 6) hx hb hts (by decide +kernel) hown hK hP (2 + b) (rowW_b (show b < 8 by omega)) rfl 2 (by decide) (hts (.fieldLink RX1 49 "VinegarLoft$Barrel" "litres" "D") (by decide +kernel)) (fun _ h9 => h9) rfl dX1_bottlesReady_56 ?_
          refine kd_ge (tgt := 70) hx hb dX1_bottlesReady_59 dX1_bottlesReady_60 (by decide) r3 (fun c59 => ?_) (fun c59 => ?_)
          · refine lv_aload_n hx hb dX1_bottlesReady_70 rfl (lv_at hl 0 rfl) ?_
            refine va_get (D := D) (ci := 0) (v := .double (h b)) (C := RX0) (T := TX0) (N := 6) hx hb hts (by decide +kernel) hown hK hP (2 + b) (rowW_b (show b < 8 by omega)) rfl 2 (by decide) (hts (.fieldLink RX1 49 "VinegarLoft$Barrel" "litres" "D") (by decide +kernel)) (fun _ h9 => h9) rfl dX1_bottlesReady_71 ?_
            refine kd_eq (show (h b) = leB h q b from by unfold leB lesv; rw [if_neg c59]) ?_
            refine lv_dstore_n (lv' := [(3, .double (leB h q b)), (2, .ref (bs b)), (1, .int (nI b)), (0, .ref r)]) hx hb dX1_bottlesReady_74 rfl hl (by decide) rfl (fun ls hl => ?_)
            refine lv_dload_n hx hb dX1_bottlesReady_75 rfl (lv_at hl 0 rfl) ?_
            refine kd_0 hx hb dX1_bottlesReady_76 ?_
            refine kd_le (tgt := 90) hx hb dX1_bottlesReady_77 dX1_bottlesReady_78 (by decide) r4 (fun c77 => ?_) (fun c77 => ?_)
            · refine lv_iconst (v := 0) hx hb dX1_bottlesReady_90 (by decide) ?_
              exact W.iret hx hb hr (fun t ht hW => ⟨_, rfl, by rw [rdv_some ho, if_pos c15, if_neg (fun h9 => h9.elim c34 c45), if_neg c77], ht⟩) (fun q hq => absurd hq List.not_mem_nil) dX1_bottlesReady_91
            · refine lv_dload_n hx hb dX1_bottlesReady_81 rfl (lv_at hl 0 rfl) ?_
              refine lv_ldc2d hx hb hown (hts (.constantDouble RX1 104 4591870180066957722) (by decide +kernel)) dX1_bottlesReady_82 ?_
              refine lv_ddiv hx hb dX1_bottlesReady_85 (r5 c77) ?_
              refine lv_d2i hx hb dX1_bottlesReady_86 ?_
              refine lv_goto (tgt := 91) hx hb dX1_bottlesReady_87 (by decide) ?_
              exact W.iret hx hb hr (fun t ht hW => ⟨_, rfl, by rw [rdv_some ho, if_pos c15, if_neg (fun h9 => h9.elim c34 c45), if_pos c77], ht⟩) (fun q hq => absurd hq List.not_mem_nil) dX1_bottlesReady_91
          · refine lv_aload_n hx hb dX1_bottlesReady_63 rfl (lv_at hl 2 rfl) ?_
            refine va_get (D := D) (ci := 1) (v := .double q) (C := RX1) (T := TX1) (N := 5) hx hb hts (by decide +kernel) hown hK hP (0) rfl rfl 4 (by decide) (hts (.fieldLink RX1 28 "VinegarLoft$Row" "mayBeDrawn" "D") (by decide +kernel)) (fun _ h9 => h9) rfl dX1_bottlesReady_64 ?_
            refine lv_goto (tgt := 74) hx hb dX1_bottlesReady_67 (by decide) ?_
            refine kd_eq (show q = leB h q b from by unfold leB lesv; rw [if_pos c59]) ?_
            refine lv_dstore_n (lv' := [(3, .double (leB h q b)), (2, .ref (bs b)), (1, .int (nI b)), (0, .ref r)]) hx hb dX1_bottlesReady_74 rfl hl (by decide) rfl (fun ls hl => ?_)
            refine lv_dload_n hx hb dX1_bottlesReady_75 rfl (lv_at hl 0 rfl) ?_
            refine kd_0 hx hb dX1_bottlesReady_76 ?_
            refine kd_le (tgt := 90) hx hb dX1_bottlesReady_77 dX1_bottlesReady_78 (by decide) r4 (fun c77 => ?_) (fun c77 => ?_)
            · refine lv_iconst (v := 0) hx hb dX1_bottlesReady_90 (by decide) ?_
              exact W.iret hx hb hr (fun t ht hW => ⟨_, rfl, by rw [rdv_some ho, if_pos c15, if_neg (fun h9 => h9.elim c34 c45), if_neg c77], ht⟩) (fun q hq => absurd hq List.not_mem_nil) dX1_bottlesReady_91
            · refine lv_dload_n hx hb dX1_bottlesReady_81 rfl (lv_at hl 0 rfl) ?_
              refine lv_ldc2d hx hb hown (hts (.constantDouble RX1 104 4591870180066957722) (by decide +kernel)) dX1_bottlesReady_82 ?_
              refine lv_ddiv hx hb dX1_bottlesReady_85 (r5 c77) ?_
              refine lv_d2i hx hb dX1_bottlesReady_86 ?_
              refine lv_goto (tgt := 91) hx hb dX1_bottlesReady_87 (by decide) ?_
              exact W.iret hx hb hr (fun t ht hW => ⟨_, rfl, by rw [rdv_some ho, if_pos c15, if_neg (fun h9 => h9.elim c34 c45), if_pos c77], ht⟩) (fun q hq => absurd hq List.not_mem_nil) dX1_bottlesReady_91
        · refine lv_iconst (v := 0) hx hb dX1_bottlesReady_49 (by decide) ?_
          exact W.iret hx hb hr (fun t ht hW => ⟨_, rfl, by rw [rdv_some ho, if_pos c15, if_pos (Or.inr c45)], ht⟩) (fun q hq => absurd hq List.not_mem_nil) dX1_bottlesReady_50
    · refine lv_iconst (v := 0) hx hb dX1_bottlesReady_18 (by decide) ?_
      exact W.iret hx hb hr (fun t ht hW => ⟨_, rfl, by rw [rdv_some ho, if_neg c15], ht⟩) (fun q hq => absurd hq List.not_mem_nil) dX1_bottlesReady_19
set_option maxHeartbeats 4000000 in
set_option maxRecDepth 100000 in
/-- allLitres -/
theorem metX1_allLitres (l : Launch) (D : va_G) (r la : Nat) (bs : Nat → Nat) (cA : ClassId) (n : Nat) (hn : n ≤ 8) (wm df : Int32) (q : UInt64) (wd zs : Nat → Int32) (h : Nat → UInt64) (ho : suLok h n) : Met l yX1_allLitres wsX1_allLitres { frames := 0, cells := 0, slots := 0, locals := 0 } (Pr D [(cA, .object "VinegarLoft$Barrel")] [.ref r] (rowW r la bs cA (nI n) wm df q wd zs h)) (vp_Sd (fun r : UInt64 => r = suL h n)) 0 0 (fun _ => False) := by
  refine Met.ofW (cc := cX1_allLitres) (maxL := 4) (ret := (some .double)) (by decide) rfl ?_
  intro p e s m args below meth c s₁ B hml hv
  obtain ⟨rfl, hP, hK⟩ := hv
  have hx := B.exec
  have hb := B.bytes
  have hr := B.returns
  have hts := atoms_spec (ws := wsX1_allLitres) B.pre
  have hown : s.vm.findClass RX1 = some m.cls := findClass_of_methodNamed B.named
  have hlocks := B.notSynchronized
  have hl := lv_entry ([.ref r]) (n := 4) (Nat.le_of_ble_eq_true rfl)
  rw [lg_entry_eq]
  generalize (lg_sl ([.ref r]) ++ List.replicate (4 - (lg_sl ([.ref r])).length) Slot.unset).toArray = ls at hl ⊢
  have hl : lv_has ls 4 [(0, .ref r)] := hl
  refine kd_0 hx hb dX1_allLitres_0 ?_
  refine lv_dstore_n (lv' := [(1, .double 0), (0, .ref r)]) hx hb dX1_allLitres_1 rfl hl (by decide) rfl (fun ls hl => ?_)
  refine lv_iconst (v := 0) hx hb dX1_allLitres_2 (by decide) ?_
  refine lv_istore_n (lv' := [(3, .int 0), (1, .double 0), (0, .ref r)]) hx hb dX1_allLitres_3 rfl hl (by decide) rfl (fun ls hl => ?_)
  refine kW_upR (n) (fun i ls => lv_has ls 4 [(3, .int (nI i)), (1, .double (suL h i)), (0, .ref r)]) (fun i ls hi hl ih => ?_) (fun ls hl => ?_) (lv_sub hl [0, 1, 2] (rfl))
  · refine lv_iload_n hx hb dX1_allLitres_4 rfl (lv_at hl 0 rfl) ?_
    refine lv_aload_n hx hb dX1_allLitres_5 rfl (lv_at hl 2 rfl) ?_
    refine va_get (D := D) (ci := 1) (v := .int (nI n)) (C := RX1) (T := TX1) (N := 5) hx hb hts (by decide +kernel) hown hK hP (0) rfl rfl 1 (by decide) (hts (.fieldLink RX1 18 "VinegarLoft$Row" "count" "I") (by decide +kernel)) (fun _ h9 => h9) rfl dX1_allLitres_6 ?_
    refine lv_icmp_ge (tgt := 30) hx hb dX1_allLitres_9 (by decide) (fun c9 => absurd c9 (nI_ge hi (by omega))) (fun c9 => ?_)
    refine lv_dload_n hx hb dX1_allLitres_12 rfl (lv_at hl 1 rfl) ?_
    refine lv_aload_n hx hb dX1_allLitres_13 rfl (lv_at hl 2 rfl) ?_
    refine va_get (D := D) (ci := 1) (v := .ref la) (C := RX1) (T := TX1) (N := 5) hx hb hts (by decide +kernel) hown hK hP (0) rfl rfl 0 (by decide) (hts (.fieldLink RX1 11 "VinegarLoft$Row" "line" "[LVinegarLoft$Barrel;") (by decide +kernel)) (fun _ h9 => h9) rfl dX1_allLitres_14 ?_
    refine lv_iload_n hx hb dX1_allLitres_17 rfl (lv_at hl 0 rfl) ?_
    refine kx_ald hx hb hK hP (1) 0 rfl rfl (j := i) rfl (by omega) dX1_allLitres_18 ?_
    refine va_get (D := D) (ci := 0) (v := .double (h i)) (C := RX0) (T := TX0) (N := 6) hx hb hts (by decide +kernel) hown hK hP (2 + i) (rowW_b (show i < 8 by omega)) rfl 2 (by decide) (hts (.fieldLink RX1 49 "VinegarLoft$Barrel" "litres" "D") (by decide +kernel)) (fun _ h9 => h9) rfl dX1_allLitres_19 ?_
    refine lv_dadd hx hb dX1_allLitres_22 (ho i hi) ?_
    refine lv_dstore_n (lv' := [(1, .double (FP.dadd (suL h i) (h i))), (3, .int (nI i)), (0, .ref r)]) hx hb dX1_allLitres_23 rfl hl (by decide) rfl (fun ls hl => ?_)
    refine lv_iinc (v := nI (i + 1)) (lv' := [(3, .int (nI (i + 1))), (1, .double (FP.dadd (suL h i) (h i))), (0, .ref r)]) hx hb dX1_allLitres_24 hl (k := 1) rfl (nI_1 i) (by decide) rfl (fun ls hl => ?_)
    refine lv_goto (tgt := 4) hx hb dX1_allLitres_27 (by decide) ?_
    exact ih ls (lv_sub hl [0, 1, 2] (rfl))
  · refine lv_iload_n hx hb dX1_allLitres_4 rfl (lv_at hl 0 rfl) ?_
    refine lv_aload_n hx hb dX1_allLitres_5 rfl (lv_at hl 2 rfl) ?_
    refine va_get (D := D) (ci := 1) (v := .int (nI n)) (C := RX1) (T := TX1) (N := 5) hx hb hts (by decide +kernel) hown hK hP (0) rfl rfl 1 (by decide) (hts (.fieldLink RX1 18 "VinegarLoft$Row" "count" "I") (by decide +kernel)) (fun _ h9 => h9) rfl dX1_allLitres_6 ?_
    refine lv_icmp_ge (tgt := 30) hx hb dX1_allLitres_9 (by decide) (fun c9 => ?_) (fun c9 => absurd (nI_le (Nat.le_refl n) (by omega)) c9)
    refine lv_dload_n hx hb dX1_allLitres_30 rfl (lv_at hl 1 rfl) ?_
    exact W.dret hx hb hr (fun t ht hW => ⟨_, rfl, rfl, ht⟩) (fun q hq => absurd hq List.not_mem_nil) dX1_allLitres_31
set_option maxHeartbeats 4000000 in
set_option maxRecDepth 100000 in
/-- litresTimesAge -/
theorem metX1_litresTimesAge (l : Launch) (D : va_G) (r la : Nat) (bs : Nat → Nat) (cA : ClassId) (n : Nat) (hn : n ≤ 8) (wm df : Int32) (q : UInt64) (wd zs : Nat → Int32) (h : Nat → UInt64) (ho : suPok 8 h n) : Met l yX1_litresTimesAge wsX1_litresTimesAge { frames := 0, cells := 0, slots := 0, locals := 0 } (Pr D [(cA, .object "VinegarLoft$Barrel")] [.ref r] (rowW r la bs cA (nI n) wm df q wd zs h)) (vp_Sd (fun r : UInt64 => r = suP 8 h n)) 0 0 (fun _ => False) := by
  refine Met.ofW (cc := cX1_litresTimesAge) (maxL := 4) (ret := (some .double)) (by decide) rfl ?_
  intro p e s m args below meth c s₁ B hml hv
  obtain ⟨rfl, hP, hK⟩ := hv
  have hx := B.exec
  have hb := B.bytes
  have hr := B.returns
  have hts := atoms_spec (ws := wsX1_litresTimesAge) B.pre
  have hown : s.vm.findClass RX1 = some m.cls := findClass_of_methodNamed B.named
  have hlocks := B.notSynchronized
  have hl := lv_entry ([.ref r]) (n := 4) (Nat.le_of_ble_eq_true rfl)
  rw [lg_entry_eq]
  generalize (lg_sl ([.ref r]) ++ List.replicate (4 - (lg_sl ([.ref r])).length) Slot.unset).toArray = ls at hl ⊢
  have hl : lv_has ls 4 [(0, .ref r)] := hl
  refine kd_0 hx hb dX1_litresTimesAge_0 ?_
  refine lv_dstore_n (lv' := [(1, .double 0), (0, .ref r)]) hx hb dX1_litresTimesAge_1 rfl hl (by decide) rfl (fun ls hl => ?_)
  refine lv_iconst (v := 0) hx hb dX1_litresTimesAge_2 (by decide) ?_
  refine lv_istore_n (lv' := [(3, .int 0), (1, .double 0), (0, .ref r)]) hx hb dX1_litresTimesAge_3 rfl hl (by decide) rfl (fun ls hl => ?_)
  refine kW_upR (n) (fun i ls => lv_has ls 4 [(3, .int (nI i)), (1, .double (suP 8 h i)), (0, .ref r)]) (fun i ls hi hl ih => ?_) (fun ls hl => ?_) (lv_sub hl [0, 1, 2] (rfl))
  · refine lv_iload_n hx hb dX1_litresTimesAge_4 rfl (lv_at hl 0 rfl) ?_
    refine lv_aload_n hx hb dX1_litresTimesAge_5 rfl (lv_at hl 2 rfl) ?_
    refine va_get (D := D) (ci := 1) (v := .int (nI n)) (C := RX1) (T := TX1) (N := 5) hx hb hts (by decide +kernel) hown hK hP (0) rfl rfl 1 (by decide) (hts (.fieldLink RX1 18 "VinegarLoft$Row" "count" "I") (by decide +kernel)) (fun _ h9 => h9) rfl dX1_litresTimesAge_6 ?_
    refine lv_icmp_ge (tgt := 40) hx hb dX1_litresTimesAge_9 (by decide) (fun c9 => absurd c9 (nI_ge hi (by omega))) (fun c9 => ?_)
    refine lv_dload_n hx hb dX1_litresTimesAge_12 rfl (lv_at hl 1 rfl) ?_
    refine lv_aload_n hx hb dX1_litresTimesAge_13 rfl (lv_at hl 2 rfl) ?_
    refine va_get (D := D) (ci := 1) (v := .ref la) (C := RX1) (T := TX1) (N := 5) hx hb hts (by decide +kernel) hown hK hP (0) rfl rfl 0 (by decide) (hts (.fieldLink RX1 11 "VinegarLoft$Row" "line" "[LVinegarLoft$Barrel;") (by decide +kernel)) (fun _ h9 => h9) rfl dX1_litresTimesAge_14 ?_
    refine lv_iload_n hx hb dX1_litresTimesAge_17 rfl (lv_at hl 0 rfl) ?_
    refine kx_ald hx hb hK hP (1) 0 rfl rfl (j := i) rfl (by omega) dX1_litresTimesAge_18 ?_
    refine va_get (D := D) (ci := 0) (v := .double (h i)) (C := RX0) (T := TX0) (N := 6) hx hb hts (by decide +kernel) hown hK hP (2 + i) (rowW_b (show i < 8 by omega)) rfl 2 (by decide) (hts (.fieldLink RX1 49 "VinegarLoft$Barrel" "litres" "D") (by decide +kernel)) (fun _ h9 => h9) rfl dX1_litresTimesAge_19 ?_
    refine lv_aload_n hx hb dX1_litresTimesAge_22 rfl (lv_at hl 2 rfl) ?_
    refine va_get (D := D) (ci := 1) (v := .ref la) (C := RX1) (T := TX1) (N := 5) hx hb hts (by decide +kernel) hown hK hP (0) rfl rfl 0 (by decide) (hts (.fieldLink RX1 11 "VinegarLoft$Row" "line" "[LVinegarLoft$Barrel;") (by decide +kernel)) (fun _ h9 => h9) rfl dX1_litresTimesAge_23 ?_
    refine lv_iload_n hx hb dX1_litresTimesAge_26 rfl (lv_at hl 0 rfl) ?_
    refine kx_ald hx hb hK hP (1) 0 rfl rfl (j := i) rfl (by omega) dX1_litresTimesAge_27 ?_
    refine va_get (D := D) (ci := 0) (v := .double (h (8 + i))) (C := RX0) (T := TX0) (N := 6) hx hb hts (by decide +kernel) hown hK hP (2 + i) (rowW_b (show i < 8 by omega)) rfl 3 (by decide) (hts (.fieldLink RX1 66 "VinegarLoft$Barrel" "age" "D") (by decide +kernel)) (fun _ h9 => h9) rfl dX1_litresTimesAge_28 ?_
    refine lv_dmul hx hb dX1_litresTimesAge_31 (ho i hi).1 ?_
    refine lv_dadd hx hb dX1_litresTimesAge_32 (ho i hi).2 ?_
    refine lv_dstore_n (lv' := [(1, .double (FP.dadd (suP 8 h i) (FP.dmul (h i) (h (8 + i))))), (3, .int (nI i)), (0, .ref r)]) hx hb dX1_litresTimesAge_33 rfl hl (by decide) rfl (fun ls hl => ?_)
    refine lv_iinc (v := nI (i + 1)) (lv' := [(3, .int (nI (i + 1))), (1, .double (FP.dadd (suP 8 h i) (FP.dmul (h i) (h (8 + i))))), (0, .ref r)]) hx hb dX1_litresTimesAge_34 hl (k := 1) rfl (nI_1 i) (by decide) rfl (fun ls hl => ?_)
    refine lv_goto (tgt := 4) hx hb dX1_litresTimesAge_37 (by decide) ?_
    exact ih ls (lv_sub hl [0, 1, 2] (rfl))
  · refine lv_iload_n hx hb dX1_litresTimesAge_4 rfl (lv_at hl 0 rfl) ?_
    refine lv_aload_n hx hb dX1_litresTimesAge_5 rfl (lv_at hl 2 rfl) ?_
    refine va_get (D := D) (ci := 1) (v := .int (nI n)) (C := RX1) (T := TX1) (N := 5) hx hb hts (by decide +kernel) hown hK hP (0) rfl rfl 1 (by decide) (hts (.fieldLink RX1 18 "VinegarLoft$Row" "count" "I") (by decide +kernel)) (fun _ h9 => h9) rfl dX1_litresTimesAge_6 ?_
    refine lv_icmp_ge (tgt := 40) hx hb dX1_litresTimesAge_9 (by decide) (fun c9 => ?_) (fun c9 => absurd (nI_le (Nat.le_refl n) (by omega)) c9)
    refine lv_dload_n hx hb dX1_litresTimesAge_40 rfl (lv_at hl 1 rfl) ?_
    exact W.dret hx hb hr (fun t ht hW => ⟨_, rfl, rfl, ht⟩) (fun q hq => absurd hq List.not_mem_nil) dX1_litresTimesAge_41
set_option maxHeartbeats 4000000 in
set_option maxRecDepth 100000 in
/-- litresTimesSugar -/
theorem metX1_litresTimesSugar (l : Launch) (D : va_G) (r la : Nat) (bs : Nat → Nat) (cA : ClassId) (n : Nat) (hn : n ≤ 8) (wm df : Int32) (q : UInt64) (wd zs : Nat → Int32) (h : Nat → UInt64) (ho : suPok 24 h n) : Met l yX1_litresTimesSugar wsX1_litresTimesSugar { frames := 0, cells := 0, slots := 0, locals := 0 } (Pr D [(cA, .object "VinegarLoft$Barrel")] [.ref r] (rowW r la bs cA (nI n) wm df q wd zs h)) (vp_Sd (fun r : UInt64 => r = suP 24 h n)) 0 0 (fun _ => False) := by
  refine Met.ofW (cc := cX1_litresTimesSugar) (maxL := 4) (ret := (some .double)) (by decide) rfl ?_
  intro p e s m args below meth c s₁ B hml hv
  obtain ⟨rfl, hP, hK⟩ := hv
  have hx := B.exec
  have hb := B.bytes
  have hr := B.returns
  have hts := atoms_spec (ws := wsX1_litresTimesSugar) B.pre
  have hown : s.vm.findClass RX1 = some m.cls := findClass_of_methodNamed B.named
  have hlocks := B.notSynchronized
  have hl := lv_entry ([.ref r]) (n := 4) (Nat.le_of_ble_eq_true rfl)
  rw [lg_entry_eq]
  generalize (lg_sl ([.ref r]) ++ List.replicate (4 - (lg_sl ([.ref r])).length) Slot.unset).toArray = ls at hl ⊢
  have hl : lv_has ls 4 [(0, .ref r)] := hl
  refine kd_0 hx hb dX1_litresTimesSugar_0 ?_
  refine lv_dstore_n (lv' := [(1, .double 0), (0, .ref r)]) hx hb dX1_litresTimesSugar_1 rfl hl (by decide) rfl (fun ls hl => ?_)
  refine lv_iconst (v := 0) hx hb dX1_litresTimesSugar_2 (by decide) ?_
  refine lv_istore_n (lv' := [(3, .int 0), (1, .double 0), (0, .ref r)]) hx hb dX1_litresTimesSugar_3 rfl hl (by decide) rfl (fun ls hl => ?_)
  refine kW_upR (n) (fun i ls => lv_has ls 4 [(3, .int (nI i)), (1, .double (suP 24 h i)), (0, .ref r)]) (fun i ls hi hl ih => ?_) (fun ls hl => ?_) (lv_sub hl [0, 1, 2] (rfl))
  · refine lv_iload_n hx hb dX1_litresTimesSugar_4 rfl (lv_at hl 0 rfl) ?_
    refine lv_aload_n hx hb dX1_litresTimesSugar_5 rfl (lv_at hl 2 rfl) ?_
    refine va_get (D := D) (ci := 1) (v := .int (nI n)) (C := RX1) (T := TX1) (N := 5) hx hb hts (by decide +kernel) hown hK hP (0) rfl rfl 1 (by decide) (hts (.fieldLink RX1 18 "VinegarLoft$Row" "count" "I") (by decide +kernel)) (fun _ h9 => h9) rfl dX1_litresTimesSugar_6 ?_
    refine lv_icmp_ge (tgt := 40) hx hb dX1_litresTimesSugar_9 (by decide) (fun c9 => absurd c9 (nI_ge hi (by omega))) (fun c9 => ?_)
    refine lv_dload_n hx hb dX1_litresTimesSugar_12 rfl (lv_at hl 1 rfl) ?_
    refine lv_aload_n hx hb dX1_litresTimesSugar_13 rfl (lv_at hl 2 rfl) ?_
    refine va_get (D := D) (ci := 1) (v := .ref la) (C := RX1) (T := TX1) (N := 5) hx hb hts (by decide +kernel) hown hK hP (0) rfl rfl 0 (by decide) (hts (.fieldLink RX1 11 "VinegarLoft$Row" "line" "[LVinegarLoft$Barrel;") (by decide +kernel)) (fun _ h9 => h9) rfl dX1_litresTimesSugar_14 ?_
    refine lv_iload_n hx hb dX1_litresTimesSugar_17 rfl (lv_at hl 0 rfl) ?_
    refine kx_ald hx hb hK hP (1) 0 rfl rfl (j := i) rfl (by omega) dX1_litresTimesSugar_18 ?_
    refine va_get (D := D) (ci := 0) (v := .double (h i)) (C := RX0) (T := TX0) (N := 6) hx hb hts (by decide +kernel) hown hK hP (2 + i) (rowW_b (show i < 8 by omega)) rfl 2 (by decide) (hts (.fieldLink RX1 49 "VinegarLoft$Barrel" "litres" "D") (by decide +kernel)) (fun _ h9 => h9) rfl dX1_litresTimesSugar_19 ?_
    refine lv_aload_n hx hb dX1_litresTimesSugar_22 rfl (lv_at hl 2 rfl) ?_
    refine va_get (D := D) (ci := 1) (v := .ref la) (C := RX1) (T := TX1) (N := 5) hx hb hts (by decide +kernel) hown hK hP (0) rfl rfl 0 (by decide) (hts (.fieldLink RX1 11 "VinegarLoft$Row" "line" "[LVinegarLoft$Barrel;") (by decide +kernel)) (fun _ h9 => h9) rfl dX1_litresTimesSugar_23 ?_
    refine lv_iload_n hx hb dX1_litresTimesSugar_26 rfl (lv_at hl 0 rfl) ?_
    refine kx_ald hx hb hK hP (1) 0 rfl rfl (j := i) rfl (by omega) dX1_litresTimesSugar_27 ?_
    refine va_get (D := D) (ci := 0) (v := .double (h (24 + i))) (C := RX0) (T := TX0) (N := 6) hx hb hts (by decide +kernel) hown hK hP (2 + i) (rowW_b (show i < 8 by omega)) rfl 5 (by decide) (hts (.fieldLink RX1 72 "VinegarLoft$Barrel" "sugar" "D") (by decide +kernel)) (fun _ h9 => h9) rfl dX1_litresTimesSugar_28 ?_
    refine lv_dmul hx hb dX1_litresTimesSugar_31 (ho i hi).1 ?_
    refine lv_dadd hx hb dX1_litresTimesSugar_32 (ho i hi).2 ?_
    refine lv_dstore_n (lv' := [(1, .double (FP.dadd (suP 24 h i) (FP.dmul (h i) (h (24 + i))))), (3, .int (nI i)), (0, .ref r)]) hx hb dX1_litresTimesSugar_33 rfl hl (by decide) rfl (fun ls hl => ?_)
    refine lv_iinc (v := nI (i + 1)) (lv' := [(3, .int (nI (i + 1))), (1, .double (FP.dadd (suP 24 h i) (FP.dmul (h i) (h (24 + i))))), (0, .ref r)]) hx hb dX1_litresTimesSugar_34 hl (k := 1) rfl (nI_1 i) (by decide) rfl (fun ls hl => ?_)
    refine lv_goto (tgt := 4) hx hb dX1_litresTimesSugar_37 (by decide) ?_
    exact ih ls (lv_sub hl [0, 1, 2] (rfl))
  · refine lv_iload_n hx hb dX1_litresTimesSugar_4 rfl (lv_at hl 0 rfl) ?_
    refine lv_aload_n hx hb dX1_litresTimesSugar_5 rfl (lv_at hl 2 rfl) ?_
    refine va_get (D := D) (ci := 1) (v := .int (nI n)) (C := RX1) (T := TX1) (N := 5) hx hb hts (by decide +kernel) hown hK hP (0) rfl rfl 1 (by decide) (hts (.fieldLink RX1 18 "VinegarLoft$Row" "count" "I") (by decide +kernel)) (fun _ h9 => h9) rfl dX1_litresTimesSugar_6 ?_
    refine lv_icmp_ge (tgt := 40) hx hb dX1_litresTimesSugar_9 (by decide) (fun c9 => ?_) (fun c9 => absurd (nI_le (Nat.le_refl n) (by omega)) c9)
    refine lv_dload_n hx hb dX1_litresTimesSugar_40 rfl (lv_at hl 1 rfl) ?_
    exact W.dret hx hb hr (fun t ht hW => ⟨_, rfl, rfl, ht⟩) (fun q hq => absurd hq List.not_mem_nil) dX1_litresTimesSugar_41
set_option maxHeartbeats 4000000 in
set_option maxRecDepth 100000 in
/-- putBehind(wood, size), where a place is free -/
theorem metX1_putBehind (l : Launch) (D : va_G) (sz : Nat) (r la : Nat) (bs : Nat → Nat) (cA : ClassId) (n : Nat) (hn : n ≤ 8) (wm df : Int32) (q : UInt64) (wd zs : Nat → Int32) (h : Nat → UInt64) (hn8 : n < 8) (x z : Int32)  : Met l yX1_putBehind wsX1_putBehind { frames := 1, cells := 0, slots := 0, locals := 20 } (Pm D [(cA, .object "VinegarLoft$Barrel")] [.ref r, .int x, .int z] (rowW r la bs cA (nI n) wm df q wd zs h) sz) (va_Qi (fun (r : Int32) (_ : Unit) => r = nI n) (Bm D [(cA, .object "VinegarLoft$Barrel")] (va_A (rowW r la bs cA (nI n) wm df q wd zs h) sz) (rowW r la bs cA (nI (n + 1)) wm df q (va_up wd n x) (va_up zs n z) (hset h n 0 0 0 0))) (va_A (rowW r la bs cA (nI n) wm df q wd zs h) sz)) 0 0 (va_A (rowW r la bs cA (nI n) wm df q wd zs h) sz) := by
  refine Met.ofW (cc := cX1_putBehind) (maxL := 4) (ret := (some .int)) (by decide) rfl ?_
  intro p e s m args below meth c s₁ B hml hv
  obtain ⟨rfl, hsz, hP, hK, hD0⟩ := hv
  have hx := B.exec
  have hb := B.bytes
  have hr := B.returns
  have hts := atoms_spec (ws := wsX1_putBehind) B.pre
  have hown : s.vm.findClass RX1 = some m.cls := findClass_of_methodNamed B.named
  have hlocks := B.notSynchronized
  subst hsz
  have hD := hD0.self (sz := s.heap.size)
  generalize hAe : va_A (rowW r la bs cA (nI n) wm df q wd zs h) s.heap.size = A at hD ⊢
  have hA : ∀ q : Nat, s.heap.size ≤ q → A q := fun q h => by rw [← hAe]; exact Or.inr h
  refine kW_H (fun H hH => ?_)
  have hP : va_P D vwCl (rowW r la bs cA (nI n) wm df q wd zs h) H := by rw [hH]; exact hP
  have hS : va_S A s.heap H [] := by rw [hH]; exact va_S.rf
  have hl := lv_entry ([.ref r, .int x, .int z]) (n := 4) (Nat.le_of_ble_eq_true rfl)
  rw [lg_entry_eq]
  generalize (lg_sl ([.ref r, .int x, .int z]) ++ List.replicate (4 - (lg_sl ([.ref r, .int x, .int z])).length) Slot.unset).toArray = ls at hl ⊢
  have hl : lv_has ls 4 [(0, .ref r), (1, .int x), (2, .int z)] := hl
  refine lv_aload_n hx hb dX1_putBehind_0 rfl (lv_at hl 0 rfl) ?_
  refine kr_i (W.runV (As := []) (rest := []) ⟨hx, hb, hml, hown, hts⟩ (metX1_isComplete l D r la bs cA n hn wm df q wd zs h) (cwV 0 hts gX1_putBehind_X1_isComplete rfl rfl rfl (by decide +kernel) ⟨Nat.le_of_ble_eq_true rfl, Nat.le_of_ble_eq_true rfl⟩) (prV 1 0 RX1 TX1 5 rfl rfl hP hK) rfl rfl hl.1 rfl (lv_room (Nat.le_of_ble_eq_true rfl)) dX1_putBehind_1 ⟨Nat.le_of_ble_eq_true rfl, Nat.le_of_ble_eq_true rfl⟩) ?_
  refine lv_if_eq (tgt := 9) hx hb dX1_putBehind_4 (by decide) (fun c4 => ?_) (fun c4 => absurd (if_pos (nI_lt (a := n) (b := 8) hn8 (by decide))) c4)
  refine lv_aload_n hx hb dX1_putBehind_9 rfl (lv_at hl 0 rfl) ?_
  refine va_get (D := D) (ci := 1) (v := .ref la) (C := RX1) (T := TX1) (N := 5) hx hb hts (by decide +kernel) hown hK hP (0) rfl rfl 0 (by decide) (hts (.fieldLink RX1 11 "VinegarLoft$Row" "line" "[LVinegarLoft$Barrel;") (by decide +kernel)) (fun _ h9 => h9) rfl dX1_putBehind_10 ?_
  refine lv_aload_n hx hb dX1_putBehind_13 rfl (lv_at hl 0 rfl) ?_
  refine va_get (D := D) (ci := 1) (v := .int (nI n)) (C := RX1) (T := TX1) (N := 5) hx hb hts (by decide +kernel) hown hK hP (0) rfl rfl 1 (by decide) (hts (.fieldLink RX1 18 "VinegarLoft$Row" "count" "I") (by decide +kernel)) (fun _ h9 => h9) rfl dX1_putBehind_14 ?_
  refine kx_ald hx hb hK hP (1) 0 rfl rfl (j := n) rfl hn8 dX1_putBehind_17 ?_
  refine lv_astore_n (lv' := [(3, .ref (bs n)), (0, .ref r), (1, .int x), (2, .int z)]) hx hb dX1_putBehind_18 rfl hl (by decide) rfl (fun ls hl => ?_)
  refine lv_aload_n hx hb dX1_putBehind_19 rfl (lv_at hl 0 rfl) ?_
  refine lv_iload_n hx hb dX1_putBehind_20 rfl (lv_at hl 2 rfl) ?_
  refine va_put (D := D) (ci := 0) (v := .int x) (ty := .int) (C := RX0) (T := TX0) (N := 6) hx hb hts (by decide +kernel) tyX0 tyX0_ok nmX0 hown hK hP hD hS (2 + n) (rowW_b (show n < 8 by omega)) rfl 0 (by decide) (hts (.fieldLink RX1 43 "VinegarLoft$Barrel" "wood" "I") (by decide +kernel)) (fun _ h9 => h9) rfl (by decide +kernel) rfl rfl (Nat.le_of_ble_eq_true rfl) dX1_putBehind_21 (fun H locs hP hD hS => ?_)
  have hP : va_P D vwCl (rowW r la bs cA (nI n) wm df q (va_up wd n x) zs h) H := by rw [← rowW_sw (show n < 8 by omega)]; exact hP
  have hD : va_D A (rowW r la bs cA (nI n) wm df q (va_up wd n x) zs h) := by rw [← rowW_sw (show n < 8 by omega)]; exact hD
  refine lv_aload_n hx hb dX1_putBehind_24 rfl (lv_at hl 0 rfl) ?_
  refine lv_iload_n hx hb dX1_putBehind_25 rfl (lv_at hl 3 rfl) ?_
  refine va_put (D := D) (ci := 0) (v := .int z) (ty := .int) (C := RX0) (T := TX0) (N := 6) hx hb hts (by decide +kernel) tyX0 tyX0_ok nmX0 hown hK hP hD hS (2 + n) (rowW_b (show n < 8 by omega)) rfl 1 (by decide) (hts (.fieldLink RX1 36 "VinegarLoft$Barrel" "size" "I") (by decide +kernel)) (fun _ h9 => h9) rfl (by decide +kernel) rfl rfl (Nat.le_of_ble_eq_true rfl) dX1_putBehind_26 (fun H locs hP hD hS => ?_)
  have hP : va_P D vwCl (rowW r la bs cA (nI n) wm df q (va_up wd n x) (va_up zs n z) h) H := by rw [← rowW_sz (show n < 8 by omega)]; exact hP
  have hD : va_D A (rowW r la bs cA (nI n) wm df q (va_up wd n x) (va_up zs n z) h) := by rw [← rowW_sz (show n < 8 by omega)]; exact hD
  refine lv_aload_n hx hb dX1_putBehind_29 rfl (lv_at hl 0 rfl) ?_
  refine ko_v (va_runV (As := []) (rest := []) ⟨hx, hb, hml, hown, hts⟩ (metX0_clear l D H.size (bs n) ((va_up wd n x) n) ((va_up zs n z) n) (h n) (h (8 + n)) (h (16 + n)) (h (24 + n))) (cwV 0 hts gX1_putBehind_X0_clear rfl rfl rfl (by decide +kernel) ⟨Nat.le_of_ble_eq_true rfl, Nat.le_of_ble_eq_true rfl⟩) (pmV 0 0 RX0 TX0 6 rfl rfl (vj_oP (rowW_b (show n < 8 by omega)) hP) (hK.sub [] rfl) (vj_oD (rowW_b (show n < 8 by omega)) hD)) rfl rfl hl.1 rfl (lv_room (Nat.le_of_ble_eq_true rfl)) dX1_putBehind_30 ⟨Nat.le_of_ble_eq_true rfl, Nat.le_of_ble_eq_true rfl⟩) (rowW_b (show n < 8 by omega)) hP hD hS hA (fun H locs hP hD hS => ?_)
  have hP : va_P D vwCl (rowW r la bs cA (nI n) wm df q (va_up wd n x) (va_up zs n z) (hset h n 0 0 0 0)) H := by rw [← rowW_sh (show n < 8 by omega)]; exact hP
  have hD : va_D A (rowW r la bs cA (nI n) wm df q (va_up wd n x) (va_up zs n z) (hset h n 0 0 0 0)) := by rw [← rowW_sh (show n < 8 by omega)]; exact hD
  refine lv_aload_n hx hb dX1_putBehind_33 rfl (lv_at hl 1 rfl) ?_
  refine lv_dup hx hb dX1_putBehind_34 rfl ?_
  refine va_get (D := D) (ci := 1) (v := .int (nI n)) (C := RX1) (T := TX1) (N := 5) hx hb hts (by decide +kernel) hown hK hP (0) rfl rfl 1 (by decide) (hts (.fieldLink RX1 18 "VinegarLoft$Row" "count" "I") (by decide +kernel)) (fun _ h9 => h9) rfl dX1_putBehind_35 ?_
  refine lv_iconst (v := 1) hx hb dX1_putBehind_38 (by decide) ?_
  refine lv_iadd hx hb dX1_putBehind_39 ?_
  refine va_put (D := D) (ci := 1) (v := .int ((nI n) + 1)) (ty := .int) (C := RX1) (T := TX1) (N := 5) hx hb hts (by decide +kernel) tyX1 tyX1_ok nmX1 hown hK hP hD hS (0) rfl rfl 1 (by decide) (hts (.fieldLink RX1 18 "VinegarLoft$Row" "count" "I") (by decide +kernel)) (fun _ h9 => h9) rfl (by decide +kernel) rfl rfl (Nat.le_of_ble_eq_true rfl) dX1_putBehind_40 (fun H locs hP hD hS => ?_)
  have hP : va_P D vwCl (rowW r la bs cA ((nI n) + 1) wm df q (va_up wd n x) (va_up zs n z) (hset h n 0 0 0 0)) H := hP
  have hD : va_D A (rowW r la bs cA ((nI n) + 1) wm df q (va_up wd n x) (va_up zs n z) (hset h n 0 0 0 0)) := hD
  refine lv_aload_n hx hb dX1_putBehind_43 rfl (lv_at hl 1 rfl) ?_
  refine va_get (D := D) (ci := 1) (v := .int ((nI n) + 1)) (C := RX1) (T := TX1) (N := 5) hx hb hts (by decide +kernel) hown hK hP (0) rfl rfl 1 (by decide) (hts (.fieldLink RX1 18 "VinegarLoft$Row" "count" "I") (by decide +kernel)) (fun _ h9 => h9) rfl dX1_putBehind_44 ?_
  refine lv_iconst (v := 1) hx hb dX1_putBehind_47 (by decide) ?_
  refine lv_isub hx hb dX1_putBehind_48 ?_
  have hP : va_P D vwCl (rowW r la bs cA (nI (n + 1)) wm df q (va_up wd n x) (va_up zs n z) (hset h n 0 0 0 0)) H := by rw [← nI_1 n]; exact hP
  have hD : va_D A (rowW r la bs cA (nI (n + 1)) wm df q (va_up wd n x) (va_up zs n z) (hset h n 0 0 0 0)) := by rw [← nI_1 n]; exact hD
  exact W.iret hx hb hr (fun t ht hW => ⟨⟨_, (), rfl, by rw [nI_1 n]; exact nI_pred n, by rw [ht]; exact hP, va_K.moved hW.alike hK, hD⟩, hS.F ht⟩) hS.2.2 dX1_putBehind_49
def pmH (n : Nat) (zs : Nat → Int32) (h : Nat → UInt64) (x : UInt64) : Nat → UInt64 := if n = 0 then h else poH h (musv (zs 0) (h 0) x)
def pmR (n : Nat) (zs : Nat → Int32) (h : Nat → UInt64) (x : UInt64) : UInt64 := if n = 0 then 0 else poR (musv (zs 0) (h 0) x)
theorem nI_e0 {n : Nat} (hn : n < 2 ^ 31) : nI n = 0 ↔ n = 0 := by
  constructor
  · intro h
    exact Nat.eq_zero_of_not_pos fun h0 => nI_ne0 h0 hn h
  · rintro rfl; rfl
set_option maxHeartbeats 4000000 in
set_option maxRecDepth 100000 in
/-- pourMust(litres) -/
theorem metX1_pourMust (l : Launch) (D : va_G) (sz : Nat) (r la : Nat) (bs : Nat → Nat) (cA : ClassId) (n : Nat) (hn : n ≤ 8) (wm df : Int32) (q : UInt64) (wd zs : Nat → Int32) (h : Nat → UInt64) (x : Int32) (hp : n ≠ 0 → pook (zs 0) h (FP.i2d x)) : Met l yX1_pourMust wsX1_pourMust { frames := 2, cells := 0, slots := 0, locals := 57 } (Pm D [(cA, .object "VinegarLoft$Barrel")] [.ref r, .int x] (rowW r la bs cA (nI n) wm df q wd zs h) sz) (va_Qd (fun (r : UInt64) (_ : Unit) => r = pmR n zs h (FP.i2d x)) (Bm D [(cA, .object "VinegarLoft$Barrel")] (va_A (rowW r la bs cA (nI n) wm df q wd zs h) sz) (rowW r la bs cA (nI n) wm df q wd zs (pmH n zs h (FP.i2d x)))) (va_A (rowW r la bs cA (nI n) wm df q wd zs h) sz)) 0 0 (va_A (rowW r la bs cA (nI n) wm df q wd zs h) sz) := by
  refine Met.ofW (cc := cX1_pourMust) (maxL := 7) (ret := (some .double)) (by decide) rfl ?_
  intro p e s m args below meth c s₁ B hml hv
  obtain ⟨rfl, hsz, hP, hK, hD0⟩ := hv
  have hx := B.exec
  have hb := B.bytes
  have hr := B.returns
  have hts := atoms_spec (ws := wsX1_pourMust) B.pre
  have hown : s.vm.findClass RX1 = some m.cls := findClass_of_methodNamed B.named
  have hlocks := B.notSynchronized
  subst hsz
  have hD := hD0.self (sz := s.heap.size)
  generalize hAe : va_A (rowW r la bs cA (nI n) wm df q wd zs h) s.heap.size = A at hD ⊢
  have hA : ∀ q : Nat, s.heap.size ≤ q → A q := fun q h => by rw [← hAe]; exact Or.inr h
  refine kW_H (fun H hH => ?_)
  have hP : va_P D vwCl (rowW r la bs cA (nI n) wm df q wd zs h) H := by rw [hH]; exact hP
  have hS : va_S A s.heap H [] := by rw [hH]; exact va_S.rf
  have hl := lv_entry ([.ref r, .int x]) (n := 7) (Nat.le_of_ble_eq_true rfl)
  rw [lg_entry_eq]
  generalize (lg_sl ([.ref r, .int x]) ++ List.replicate (7 - (lg_sl ([.ref r, .int x])).length) Slot.unset).toArray = ls at hl ⊢
  have hl : lv_has ls 7 [(0, .ref r), (1, .int x)] := hl
  refine lv_aload_n hx hb dX1_pourMust_0 rfl (lv_at hl 0 rfl) ?_
  refine va_get (D := D) (ci := 1) (v := .int (nI n)) (C := RX1) (T := TX1) (N := 5) hx hb hts (by decide +kernel) hown hK hP (0) rfl rfl 1 (by decide) (hts (.fieldLink RX1 18 "VinegarLoft$Row" "count" "I") (by decide +kernel)) (fun _ h9 => h9) rfl dX1_pourMust_1 ?_
  refine lv_if_ne (tgt := 9) hx hb dX1_pourMust_4 (by decide) (fun c4 => ?_) (fun c4 => ?_)
  · have h0 : n ≠ 0 := fun h => c4 ((nI_e0 (by omega)).mpr h)
    obtain ⟨p1, p2, p3, p4⟩ := hp h0
    refine lv_aload_n hx hb dX1_pourMust_9 rfl (lv_at hl 0 rfl) ?_
    refine va_get (D := D) (ci := 1) (v := .ref la) (C := RX1) (T := TX1) (N := 5) hx hb hts (by decide +kernel) hown hK hP (0) rfl rfl 0 (by decide) (hts (.fieldLink RX1 11 "VinegarLoft$Row" "line" "[LVinegarLoft$Barrel;") (by decide +kernel)) (fun _ h9 => h9) rfl dX1_pourMust_10 ?_
    refine lv_iconst (v := 0) hx hb dX1_pourMust_13 (by decide) ?_
    refine kx_ald hx hb hK hP (1) 0 rfl rfl (j := 0) rfl (by decide) dX1_pourMust_14 ?_
    refine lv_astore_n (lv' := [(2, .ref (bs 0)), (0, .ref r), (1, .int x)]) hx hb dX1_pourMust_15 rfl hl (by decide) rfl (fun ls hl => ?_)
    refine lv_aload_n hx hb dX1_pourMust_16 rfl (lv_at hl 0 rfl) ?_
    refine va_get (D := D) (ci := 0) (v := .int (zs 0)) (C := RX0) (T := TX0) (N := 6) hx hb hts (by decide +kernel) hown hK hP (2) rfl rfl 1 (by decide) (hts (.fieldLink RX1 36 "VinegarLoft$Barrel" "size" "I") (by decide +kernel)) (fun _ h9 => h9) rfl dX1_pourMust_17 ?_
    refine lv_i2d hx hb dX1_pourMust_20 ?_
    refine lv_aload_n hx hb dX1_pourMust_21 rfl (lv_at hl 0 rfl) ?_
    refine va_get (D := D) (ci := 0) (v := .double (h 0)) (C := RX0) (T := TX0) (N := 6) hx hb hts (by decide +kernel) hown hK hP (2) rfl rfl 2 (by decide) (hts (.fieldLink RX1 49 "VinegarLoft$Barrel" "litres" "D") (by decide +kernel)) (fun _ h9 => h9) rfl dX1_pourMust_22 ?_
    refine lv_dsub hx hb dX1_pourMust_25 p1 ?_
    refine lv_dstore_n (lv' := [(3, .double (FP.dsub (FP.i2d (zs 0)) (h 0))), (2, .ref (bs 0)), (0, .ref r), (1, .int x)]) hx hb dX1_pourMust_26 rfl hl (by decide) rfl (fun ls hl => ?_)
    refine lv_iload_n hx hb dX1_pourMust_27 rfl (lv_at hl 3 rfl) ?_
    refine lv_i2d hx hb dX1_pourMust_28 ?_
    refine lv_dload_n hx hb dX1_pourMust_29 rfl (lv_at hl 0 rfl) ?_
    refine kd_ge (tgt := 39) hx hb dX1_pourMust_30 dX1_pourMust_31 (by decide) p2 (fun c30 => ?_) (fun c30 => ?_)
    · refine lv_dload_n hx hb dX1_pourMust_39 rfl (lv_at hl 0 rfl) ?_
      refine kd_eq (show (FP.dsub (FP.i2d (zs 0)) (h 0)) = musv (zs 0) (h 0) (FP.i2d x) from by unfold musv lesv; rw [if_neg c30]) ?_
      refine lv_dstore (lv' := [(5, .double (musv (zs 0) (h 0) (FP.i2d x))), (3, .double (FP.dsub (FP.i2d (zs 0)) (h 0))), (2, .ref (bs 0)), (0, .ref r), (1, .int x)]) hx hb dX1_pourMust_40 hl (by decide) rfl (fun ls hl => ?_)
      refine lv_dload hx hb dX1_pourMust_42 (lv_at hl 0 rfl) ?_
      refine kd_0 hx hb dX1_pourMust_44 ?_
      refine kd_gt (tgt := 51) hx hb dX1_pourMust_45 dX1_pourMust_46 (by decide) p3 (fun c45 => ?_) (fun c45 => ?_)
      · refine lv_aload_n hx hb dX1_pourMust_51 rfl (lv_at hl 2 rfl) ?_
        refine lv_dload hx hb dX1_pourMust_52 (lv_at hl 0 rfl) ?_
        refine kd_0 hx hb dX1_pourMust_54 ?_
        refine kd_1 hx hb dX1_pourMust_55 ?_
        refine lv_ldc2d hx hb hown (hts (.constantDouble RX1 52 4629137466983448576) (by decide +kernel)) dX1_pourMust_56 ?_
        obtain ⟨m1, m2, m3⟩ := p4 c45
        refine ko_v (k := 2) (va_runV (As := [.double (musv (zs 0) (h 0) (FP.i2d x)), .double 0, .double 4607182418800017408, .double 4629137466983448576]) (rest := []) ⟨hx, hb, hml, hown, hts⟩ (metX0_mixIn l D H.size (bs 0) (wd 0) (zs 0) (h 0) (h 8) (h 16) (h 24) (musv (zs 0) (h 0) (FP.i2d x)) 0 4607182418800017408 4629137466983448576 m1 m2 m3) (cwV 4 hts gX1_pourMust_X0_mixIn rfl rfl rfl (by decide +kernel) ⟨Nat.le_of_ble_eq_true rfl, Nat.le_of_ble_eq_true rfl⟩) (pmV 0 0 RX0 TX0 6 rfl rfl (vj_oP (k := 2) rfl hP) (hK.sub [] rfl) (vj_oD (k := 2) rfl hD)) rfl rfl hl.1 rfl (lv_room (Nat.le_of_ble_eq_true rfl)) dX1_pourMust_59 ⟨Nat.le_of_ble_eq_true rfl, Nat.le_of_ble_eq_true rfl⟩) rfl hP hD hS hA (fun H locs hP hD hS => ?_)
        have hP : va_P D vwCl (rowW r la bs cA (nI n) wm df q wd zs (poH h (musv (zs 0) (h 0) (FP.i2d x)))) H := by unfold poH; rw [if_pos c45, ← rowW_sh (i := 0) (by decide)]; exact hP
        have hD : va_D A (rowW r la bs cA (nI n) wm df q wd zs (poH h (musv (zs 0) (h 0) (FP.i2d x)))) := by unfold poH; rw [if_pos c45, ← rowW_sh (i := 0) (by decide)]; exact hD
        refine lv_dload hx hb dX1_pourMust_62 (lv_at hl 0 rfl) ?_
        have hP : va_P D vwCl (rowW r la bs cA (nI n) wm df q wd zs (pmH n zs h (FP.i2d x))) H := by unfold pmH; rw [if_neg h0]; exact hP
        have hD : va_D A (rowW r la bs cA (nI n) wm df q wd zs (pmH n zs h (FP.i2d x))) := by unfold pmH; rw [if_neg h0]; exact hD
        exact W.dret hx hb hr (fun t ht hW => ⟨⟨_, (), rfl, by unfold pmR; rw [if_neg h0]; unfold poR; rw [if_pos c45], by rw [ht]; exact hP, va_K.moved hW.alike hK, hD⟩, hS.F ht⟩) hS.2.2 dX1_pourMust_64
      · refine kd_0 hx hb dX1_pourMust_49 ?_
        have hP : va_P D vwCl (rowW r la bs cA (nI n) wm df q wd zs (pmH n zs h (FP.i2d x))) H := by unfold pmH; rw [if_neg h0]; unfold poH; rw [if_neg c45]; exact hP
        have hD : va_D A (rowW r la bs cA (nI n) wm df q wd zs (pmH n zs h (FP.i2d x))) := by unfold pmH; rw [if_neg h0]; unfold poH; rw [if_neg c45]; exact hD
        exact W.dret hx hb hr (fun t ht hW => ⟨⟨_, (), rfl, by unfold pmR; rw [if_neg h0]; unfold poR; rw [if_neg c45], by rw [ht]; exact hP, va_K.moved hW.alike hK, hD⟩, hS.F ht⟩) hS.2.2 dX1_pourMust_50
    · refine lv_iload_n hx hb dX1_pourMust_34 rfl (lv_at hl 3 rfl) ?_
      refine lv_i2d hx hb dX1_pourMust_35 ?_
      refine lv_goto (tgt := 40) hx hb dX1_pourMust_36 (by decide) ?_
      refine kd_eq (show (FP.i2d x) = musv (zs 0) (h 0) (FP.i2d x) from by unfold musv lesv; rw [if_pos c30]) ?_
      refine lv_dstore (lv' := [(5, .double (musv (zs 0) (h 0) (FP.i2d x))), (3, .double (FP.dsub (FP.i2d (zs 0)) (h 0))), (2, .ref (bs 0)), (0, .ref r), (1, .int x)]) hx hb dX1_pourMust_40 hl (by decide) rfl (fun ls hl => ?_)
      refine lv_dload hx hb dX1_pourMust_42 (lv_at hl 0 rfl) ?_
      refine kd_0 hx hb dX1_pourMust_44 ?_
      refine kd_gt (tgt := 51) hx hb dX1_pourMust_45 dX1_pourMust_46 (by decide) p3 (fun c45 => ?_) (fun c45 => ?_)
      · refine lv_aload_n hx hb dX1_pourMust_51 rfl (lv_at hl 2 rfl) ?_
        refine lv_dload hx hb dX1_pourMust_52 (lv_at hl 0 rfl) ?_
        refine kd_0 hx hb dX1_pourMust_54 ?_
        refine kd_1 hx hb dX1_pourMust_55 ?_
        refine lv_ldc2d hx hb hown (hts (.constantDouble RX1 52 4629137466983448576) (by decide +kernel)) dX1_pourMust_56 ?_
        obtain ⟨m1, m2, m3⟩ := p4 c45
        refine ko_v (k := 2) (va_runV (As := [.double (musv (zs 0) (h 0) (FP.i2d x)), .double 0, .double 4607182418800017408, .double 4629137466983448576]) (rest := []) ⟨hx, hb, hml, hown, hts⟩ (metX0_mixIn l D H.size (bs 0) (wd 0) (zs 0) (h 0) (h 8) (h 16) (h 24) (musv (zs 0) (h 0) (FP.i2d x)) 0 4607182418800017408 4629137466983448576 m1 m2 m3) (cwV 4 hts gX1_pourMust_X0_mixIn rfl rfl rfl (by decide +kernel) ⟨Nat.le_of_ble_eq_true rfl, Nat.le_of_ble_eq_true rfl⟩) (pmV 0 0 RX0 TX0 6 rfl rfl (vj_oP (k := 2) rfl hP) (hK.sub [] rfl) (vj_oD (k := 2) rfl hD)) rfl rfl hl.1 rfl (lv_room (Nat.le_of_ble_eq_true rfl)) dX1_pourMust_59 ⟨Nat.le_of_ble_eq_true rfl, Nat.le_of_ble_eq_true rfl⟩) rfl hP hD hS hA (fun H locs hP hD hS => ?_)
        have hP : va_P D vwCl (rowW r la bs cA (nI n) wm df q wd zs (poH h (musv (zs 0) (h 0) (FP.i2d x)))) H := by unfold poH; rw [if_pos c45, ← rowW_sh (i := 0) (by decide)]; exact hP
        have hD : va_D A (rowW r la bs cA (nI n) wm df q wd zs (poH h (musv (zs 0) (h 0) (FP.i2d x)))) := by unfold poH; rw [if_pos c45, ← rowW_sh (i := 0) (by decide)]; exact hD
        refine lv_dload hx hb dX1_pourMust_62 (lv_at hl 0 rfl) ?_
        have hP : va_P D vwCl (rowW r la bs cA (nI n) wm df q wd zs (pmH n zs h (FP.i2d x))) H := by unfold pmH; rw [if_neg h0]; exact hP
        have hD : va_D A (rowW r la bs cA (nI n) wm df q wd zs (pmH n zs h (FP.i2d x))) := by unfold pmH; rw [if_neg h0]; exact hD
        exact W.dret hx hb hr (fun t ht hW => ⟨⟨_, (), rfl, by unfold pmR; rw [if_neg h0]; unfold poR; rw [if_pos c45], by rw [ht]; exact hP, va_K.moved hW.alike hK, hD⟩, hS.F ht⟩) hS.2.2 dX1_pourMust_64
      · refine kd_0 hx hb dX1_pourMust_49 ?_
        have hP : va_P D vwCl (rowW r la bs cA (nI n) wm df q wd zs (pmH n zs h (FP.i2d x))) H := by unfold pmH; rw [if_neg h0]; unfold poH; rw [if_neg c45]; exact hP
        have hD : va_D A (rowW r la bs cA (nI n) wm df q wd zs (pmH n zs h (FP.i2d x))) := by unfold pmH; rw [if_neg h0]; unfold poH; rw [if_neg c45]; exact hD
        exact W.dret hx hb hr (fun t ht hW => ⟨⟨_, (), rfl, by unfold pmR; rw [if_neg h0]; unfold poR; rw [if_neg c45], by rw [ht]; exact hP, va_K.moved hW.alike hK, hD⟩, hS.F ht⟩) hS.2.2 dX1_pourMust_50
  · have h0 : n = 0 := (nI_e0 (by omega)).mp c4
    refine kd_0 hx hb dX1_pourMust_7 ?_
    have hP : va_P D vwCl (rowW r la bs cA (nI n) wm df q wd zs (pmH n zs h (FP.i2d x))) H := by unfold pmH; rw [if_pos h0]; exact hP
    have hD : va_D A (rowW r la bs cA (nI n) wm df q wd zs (pmH n zs h (FP.i2d x))) := by unfold pmH; rw [if_pos h0]; exact hD
    exact W.dret hx hb hr (fun t ht hW => ⟨⟨_, (), rfl, by unfold pmR; rw [if_pos h0], by rw [ht]; exact hP, va_K.moved hW.alike hK, hD⟩, hS.F ht⟩) hS.2.2 dX1_pourMust_8
set_option maxHeartbeats 4000000 in
set_option maxRecDepth 100000 in
/-- passBetween(ahead, behind), where something goes -/
theorem metX1_passBetween_y (l : Launch) (D : va_G) (sz : Nat) (x1 x2 : Nat) (w1 z1 : Int32) (l1 g1 a1 s1 : UInt64) (w2 z2 : Int32) (l2 g2 a2 s2 : UInt64) (hp : paok z2 l1 g1 a1 s1 l2 g2 a2 s2) (hg : FP.dcmp (goev z2 l2 l1) 0 = some .gt) : Met l yX1_passBetween wsX1_passBetween { frames := 2, cells := 0, slots := 0, locals := 57 } (Pm D [] [.ref x1, .ref x2] ([(x1, .inr (0, [.int w1, .int z1, .double l1, .double g1, .double a1, .double s1])), (x2, .inr (0, [.int w2, .int z2, .double l2, .double g2, .double a2, .double s2]))]) sz) (va_Qd (fun (r : UInt64) (_ : Unit) => r = goev z2 l2 l1) (Bm D [] (va_A ([(x1, .inr (0, [.int w1, .int z1, .double l1, .double g1, .double a1, .double s1])), (x2, .inr (0, [.int w2, .int z2, .double l2, .double g2, .double a2, .double s2]))]) sz) ([(x1, .inr (0, [.int w1, .int z1, .double (FP.dsub l1 (goev z2 l2 l1)), .double g1, .double a1, .double s1])), (x2, .inr (0, [.int w2, .int z2, .double (FP.dadd l2 (goev z2 l2 l1)), .double (mixv l2 g2 (goev z2 l2 l1) g1), .double (mixv l2 a2 (goev z2 l2 l1) a1), .double (mixv l2 s2 (goev z2 l2 l1) s1)]))])) (va_A ([(x1, .inr (0, [.int w1, .int z1, .double l1, .double g1, .double a1, .double s1])), (x2, .inr (0, [.int w2, .int z2, .double l2, .double g2, .double a2, .double s2]))]) sz)) 0 0 (va_A ([(x1, .inr (0, [.int w1, .int z1, .double l1, .double g1, .double a1, .double s1])), (x2, .inr (0, [.int w2, .int z2, .double l2, .double g2, .double a2, .double s2]))]) sz) := by
  refine Met.ofW (cc := cX1_passBetween) (maxL := 8) (ret := (some .double)) (by decide) rfl ?_
  intro p e s m args below meth c s₁ B hml hv
  obtain ⟨rfl, hsz, hP, hK, hD0⟩ := hv
  have hx := B.exec
  have hb := B.bytes
  have hr := B.returns
  have hts := atoms_spec (ws := wsX1_passBetween) B.pre
  have hown : s.vm.findClass RX1 = some m.cls := findClass_of_methodNamed B.named
  have hlocks := B.notSynchronized
  subst hsz
  have hD := hD0.self (sz := s.heap.size)
  generalize hAe : va_A ([(x1, .inr (0, [.int w1, .int z1, .double l1, .double g1, .double a1, .double s1])), (x2, .inr (0, [.int w2, .int z2, .double l2, .double g2, .double a2, .double s2]))]) s.heap.size = A at hD ⊢
  have hA : ∀ q : Nat, s.heap.size ≤ q → A q := fun q h => by rw [← hAe]; exact Or.inr h
  refine kW_H (fun H hH => ?_)
  have hP : va_P D vwCl ([(x1, .inr (0, [.int w1, .int z1, .double l1, .double g1, .double a1, .double s1])), (x2, .inr (0, [.int w2, .int z2, .double l2, .double g2, .double a2, .double s2]))]) H := by rw [hH]; exact hP
  have hS : va_S A s.heap H [] := by rw [hH]; exact va_S.rf
  have hl := lv_entry ([.ref x1, .ref x2]) (n := 8) (Nat.le_of_ble_eq_true rfl)
  rw [lg_entry_eq]
  generalize (lg_sl ([.ref x1, .ref x2]) ++ List.replicate (8 - (lg_sl ([.ref x1, .ref x2])).length) Slot.unset).toArray = ls at hl ⊢
  have hl : lv_has ls 8 [(0, .ref x1), (1, .ref x2)] := hl
  obtain ⟨q1, q2, q3, q4, q5, q6⟩ := hp
  obtain ⟨m1, m2, m3, m4, m5⟩ := q6 hg
  refine lv_ldc2d hx hb hown (hts (.constantDouble RX1 62 4606281698874543309) (by decide +kernel)) dX1_passBetween_0 ?_
  refine lv_aload_n hx hb dX1_passBetween_3 rfl (lv_at hl 1 rfl) ?_
  refine va_get (D := D) (ci := 0) (v := .int z2) (C := RX0) (T := TX0) (N := 6) hx hb hts (by decide +kernel) hown hK hP (1) rfl rfl 1 (by decide) (hts (.fieldLink RX1 36 "VinegarLoft$Barrel" "size" "I") (by decide +kernel)) (fun _ h9 => h9) rfl dX1_passBetween_4 ?_
  refine lv_i2d hx hb dX1_passBetween_7 ?_
  refine lv_dmul hx hb dX1_passBetween_8 q1 ?_
  refine lv_aload_n hx hb dX1_passBetween_9 rfl (lv_at hl 1 rfl) ?_
  refine va_get (D := D) (ci := 0) (v := .double l2) (C := RX0) (T := TX0) (N := 6) hx hb hts (by decide +kernel) hown hK hP (1) rfl rfl 2 (by decide) (hts (.fieldLink RX1 49 "VinegarLoft$Barrel" "litres" "D") (by decide +kernel)) (fun _ h9 => h9) rfl dX1_passBetween_10 ?_
  refine lv_dsub hx hb dX1_passBetween_13 q2 ?_
  refine lv_dstore_n (lv' := [(2, .double (FP.dsub (FP.dmul 4606281698874543309 (FP.i2d z2)) l2)), (0, .ref x1), (1, .ref x2)]) hx hb dX1_passBetween_14 rfl hl (by decide) rfl (fun ls hl => ?_)
  refine lv_ldc2d hx hb hown (hts (.constantDouble RX1 64 4602678819172646912) (by decide +kernel)) dX1_passBetween_15 ?_
  refine lv_aload_n hx hb dX1_passBetween_18 rfl (lv_at hl 1 rfl) ?_
  refine va_get (D := D) (ci := 0) (v := .double l1) (C := RX0) (T := TX0) (N := 6) hx hb hts (by decide +kernel) hown hK hP (0) rfl rfl 2 (by decide) (hts (.fieldLink RX1 49 "VinegarLoft$Barrel" "litres" "D") (by decide +kernel)) (fun _ h9 => h9) rfl dX1_passBetween_19 ?_
  refine lv_dmul hx hb dX1_passBetween_22 q3 ?_
  refine lv_dstore (lv' := [(4, .double (FP.dmul 4602678819172646912 l1)), (2, .double (FP.dsub (FP.dmul 4606281698874543309 (FP.i2d z2)) l2)), (0, .ref x1), (1, .ref x2)]) hx hb dX1_passBetween_23 hl (by decide) rfl (fun ls hl => ?_)
  refine lv_dload_n hx hb dX1_passBetween_25 rfl (lv_at hl 1 rfl) ?_
  refine lv_dload hx hb dX1_passBetween_26 (lv_at hl 0 rfl) ?_
  refine kd_ge (tgt := 36) hx hb dX1_passBetween_28 dX1_passBetween_29 (by decide) q4 (fun c28 => ?_) (fun c28 => ?_)
  · refine lv_dload hx hb dX1_passBetween_36 (lv_at hl 0 rfl) ?_
    refine kd_eq (show (FP.dmul 4602678819172646912 l1) = goev z2 l2 l1 from by unfold goev lesv; rw [if_neg c28]) ?_
    refine lv_dstore (lv' := [(6, .double (goev z2 l2 l1)), (4, .double (FP.dmul 4602678819172646912 l1)), (2, .double (FP.dsub (FP.dmul 4606281698874543309 (FP.i2d z2)) l2)), (0, .ref x1), (1, .ref x2)]) hx hb dX1_passBetween_38 hl (by decide) rfl (fun ls hl => ?_)
    refine lv_dload hx hb dX1_passBetween_40 (lv_at hl 0 rfl) ?_
    refine kd_0 hx hb dX1_passBetween_42 ?_
    refine kd_gt (tgt := 49) hx hb dX1_passBetween_43 dX1_passBetween_44 (by decide) q5 (fun c43 => ?_) (fun c43 => absurd hg c43)
    refine lv_aload_n hx hb dX1_passBetween_49 rfl (lv_at hl 4 rfl) ?_
    refine lv_dload hx hb dX1_passBetween_50 (lv_at hl 0 rfl) ?_
    refine lv_aload_n hx hb dX1_passBetween_52 rfl (lv_at hl 3 rfl) ?_
    refine va_get (D := D) (ci := 0) (v := .double g1) (C := RX0) (T := TX0) (N := 6) hx hb hts (by decide +kernel) hown hK hP (0) rfl rfl 3 (by decide) (hts (.fieldLink RX1 66 "VinegarLoft$Barrel" "age" "D") (by decide +kernel)) (fun _ h9 => h9) rfl dX1_passBetween_53 ?_
    refine lv_aload_n hx hb dX1_passBetween_56 rfl (lv_at hl 3 rfl) ?_
    refine va_get (D := D) (ci := 0) (v := .double a1) (C := RX0) (T := TX0) (N := 6) hx hb hts (by decide +kernel) hown hK hP (0) rfl rfl 4 (by decide) (hts (.fieldLink RX1 69 "VinegarLoft$Barrel" "acid" "D") (by decide +kernel)) (fun _ h9 => h9) rfl dX1_passBetween_57 ?_
    refine lv_aload_n hx hb dX1_passBetween_60 rfl (lv_at hl 3 rfl) ?_
    refine va_get (D := D) (ci := 0) (v := .double s1) (C := RX0) (T := TX0) (N := 6) hx hb hts (by decide +kernel) hown hK hP (0) rfl rfl 5 (by decide) (hts (.fieldLink RX1 72 "VinegarLoft$Barrel" "sugar" "D") (by decide +kernel)) (fun _ h9 => h9) rfl dX1_passBetween_61 ?_
    refine ko_v (k := 1) (va_runV (As := [.double (goev z2 l2 l1), .double g1, .double a1, .double s1]) (rest := []) ⟨hx, hb, hml, hown, hts⟩ (metX0_mixIn l D H.size x2 w2 z2 l2 g2 a2 s2 (goev z2 l2 l1) g1 a1 s1 m1 m2 m3) (cwV 4 hts gX1_passBetween_X0_mixIn rfl rfl rfl (by decide +kernel) ⟨Nat.le_of_ble_eq_true rfl, Nat.le_of_ble_eq_true rfl⟩) (pmV 0 0 RX0 TX0 6 rfl rfl (vj_oP (k := 1) rfl hP) (hK.sub [] rfl) (vj_oD (k := 1) rfl hD)) rfl rfl hl.1 rfl (lv_room (Nat.le_of_ble_eq_true rfl)) dX1_passBetween_64 ⟨Nat.le_of_ble_eq_true rfl, Nat.le_of_ble_eq_true rfl⟩) rfl hP hD hS hA (fun H locs hP hD hS => ?_)
    have hP : va_P D vwCl [(x1, .inr (0, [.int w1, .int z1, .double l1, .double g1, .double a1, .double s1])), (x2, .inr (0, [.int w2, .int z2, .double (FP.dadd l2 (goev z2 l2 l1)), .double (mixv l2 g2 (goev z2 l2 l1) g1), .double (mixv l2 a2 (goev z2 l2 l1) a1), .double (mixv l2 s2 (goev z2 l2 l1) s1)]))] H := hP
    have hD : va_D A [(x1, .inr (0, [.int w1, .int z1, .double l1, .double g1, .double a1, .double s1])), (x2, .inr (0, [.int w2, .int z2, .double (FP.dadd l2 (goev z2 l2 l1)), .double (mixv l2 g2 (goev z2 l2 l1) g1), .double (mixv l2 a2 (goev z2 l2 l1) a1), .double (mixv l2 s2 (goev z2 l2 l1) s1)]))] := hD
    refine lv_aload_n hx hb dX1_passBetween_67 rfl (lv_at hl 3 rfl) ?_
    refine lv_dload hx hb dX1_passBetween_68 (lv_at hl 0 rfl) ?_
    refine ko_v (k := 0) (va_runV (As := [.double (goev z2 l2 l1)]) (rest := []) ⟨hx, hb, hml, hown, hts⟩ (metX0_takeOut l D H.size x1 w1 z1 l1 g1 a1 s1 (goev z2 l2 l1) m4 (gt_ne m5)) (cwV 1 hts gX1_passBetween_X0_takeOut rfl rfl rfl (by decide +kernel) ⟨Nat.le_of_ble_eq_true rfl, Nat.le_of_ble_eq_true rfl⟩) (pmV 0 0 RX0 TX0 6 rfl rfl (vj_oP (k := 0) rfl hP) (hK.sub [] rfl) (vj_oD (k := 0) rfl hD)) rfl rfl hl.1 rfl (lv_room (Nat.le_of_ble_eq_true rfl)) dX1_passBetween_70 ⟨Nat.le_of_ble_eq_true rfl, Nat.le_of_ble_eq_true rfl⟩) rfl hP hD hS hA (fun H locs hP hD hS => ?_)
    have ek : tkE w1 z1 l1 g1 a1 s1 (goev z2 l2 l1) = EB w1 z1 (FP.dsub l1 (goev z2 l2 l1)) g1 a1 s1 := by unfold tkE; rw [if_pos m5]
    rw [ek] at hP hD
    have hP : va_P D vwCl [(x1, .inr (0, [.int w1, .int z1, .double (FP.dsub l1 (goev z2 l2 l1)), .double g1, .double a1, .double s1])), (x2, .inr (0, [.int w2, .int z2, .double (FP.dadd l2 (goev z2 l2 l1)), .double (mixv l2 g2 (goev z2 l2 l1) g1), .double (mixv l2 a2 (goev z2 l2 l1) a1), .double (mixv l2 s2 (goev z2 l2 l1) s1)]))] H := hP
    have hD : va_D A [(x1, .inr (0, [.int w1, .int z1, .double (FP.dsub l1 (goev z2 l2 l1)), .double g1, .double a1, .double s1])), (x2, .inr (0, [.int w2, .int z2, .double (FP.dadd l2 (goev z2 l2 l1)), .double (mixv l2 g2 (goev z2 l2 l1) g1), .double (mixv l2 a2 (goev z2 l2 l1) a1), .double (mixv l2 s2 (goev z2 l2 l1) s1)]))] := hD
    refine lv_dload hx hb dX1_passBetween_73 (lv_at hl 0 rfl) ?_
    exact W.dret hx hb hr (fun t ht hW => ⟨⟨_, (), rfl, rfl, by rw [ht]; exact hP, va_K.moved hW.alike hK, hD⟩, hS.F ht⟩) hS.2.2 dX1_passBetween_75
  · refine lv_dload_n hx hb dX1_passBetween_32 rfl (lv_at hl 1 rfl) ?_
    refine lv_goto (tgt := 38) hx hb dX1_passBetween_33 (by decide) ?_
    refine kd_eq (show (FP.dsub (FP.dmul 4606281698874543309 (FP.i2d z2)) l2) = goev z2 l2 l1 from by unfold goev lesv; rw [if_pos c28]) ?_
    refine lv_dstore (lv' := [(6, .double (goev z2 l2 l1)), (4, .double (FP.dmul 4602678819172646912 l1)), (2, .double (FP.dsub (FP.dmul 4606281698874543309 (FP.i2d z2)) l2)), (0, .ref x1), (1, .ref x2)]) hx hb dX1_passBetween_38 hl (by decide) rfl (fun ls hl => ?_)
    refine lv_dload hx hb dX1_passBetween_40 (lv_at hl 0 rfl) ?_
    refine kd_0 hx hb dX1_passBetween_42 ?_
    refine kd_gt (tgt := 49) hx hb dX1_passBetween_43 dX1_passBetween_44 (by decide) q5 (fun c43 => ?_) (fun c43 => absurd hg c43)
    refine lv_aload_n hx hb dX1_passBetween_49 rfl (lv_at hl 4 rfl) ?_
    refine lv_dload hx hb dX1_passBetween_50 (lv_at hl 0 rfl) ?_
    refine lv_aload_n hx hb dX1_passBetween_52 rfl (lv_at hl 3 rfl) ?_
    refine va_get (D := D) (ci := 0) (v := .double g1) (C := RX0) (T := TX0) (N := 6) hx hb hts (by decide +kernel) hown hK hP (0) rfl rfl 3 (by decide) (hts (.fieldLink RX1 66 "VinegarLoft$Barrel" "age" "D") (by decide +kernel)) (fun _ h9 => h9) rfl dX1_passBetween_53 ?_
    refine lv_aload_n hx hb dX1_passBetween_56 rfl (lv_at hl 3 rfl) ?_
    refine va_get (D := D) (ci := 0) (v := .double a1) (C := RX0) (T := TX0) (N := 6) hx hb hts (by decide +kernel) hown hK hP (0) rfl rfl 4 (by decide) (hts (.fieldLink RX1 69 "VinegarLoft$Barrel" "acid" "D") (by decide +kernel)) (fun _ h9 => h9) rfl dX1_passBetween_57 ?_
    refine lv_aload_n hx hb dX1_passBetween_60 rfl (lv_at hl 3 rfl) ?_
    refine va_get (D := D) (ci := 0) (v := .double s1) (C := RX0) (T := TX0) (N := 6) hx hb hts (by decide +kernel) hown hK hP (0) rfl rfl 5 (by decide) (hts (.fieldLink RX1 72 "VinegarLoft$Barrel" "sugar" "D") (by decide +kernel)) (fun _ h9 => h9) rfl dX1_passBetween_61 ?_
    refine ko_v (k := 1) (va_runV (As := [.double (goev z2 l2 l1), .double g1, .double a1, .double s1]) (rest := []) ⟨hx, hb, hml, hown, hts⟩ (metX0_mixIn l D H.size x2 w2 z2 l2 g2 a2 s2 (goev z2 l2 l1) g1 a1 s1 m1 m2 m3) (cwV 4 hts gX1_passBetween_X0_mixIn rfl rfl rfl (by decide +kernel) ⟨Nat.le_of_ble_eq_true rfl, Nat.le_of_ble_eq_true rfl⟩) (pmV 0 0 RX0 TX0 6 rfl rfl (vj_oP (k := 1) rfl hP) (hK.sub [] rfl) (vj_oD (k := 1) rfl hD)) rfl rfl hl.1 rfl (lv_room (Nat.le_of_ble_eq_true rfl)) dX1_passBetween_64 ⟨Nat.le_of_ble_eq_true rfl, Nat.le_of_ble_eq_true rfl⟩) rfl hP hD hS hA (fun H locs hP hD hS => ?_)
    have hP : va_P D vwCl [(x1, .inr (0, [.int w1, .int z1, .double l1, .double g1, .double a1, .double s1])), (x2, .inr (0, [.int w2, .int z2, .double (FP.dadd l2 (goev z2 l2 l1)), .double (mixv l2 g2 (goev z2 l2 l1) g1), .double (mixv l2 a2 (goev z2 l2 l1) a1), .double (mixv l2 s2 (goev z2 l2 l1) s1)]))] H := hP
    have hD : va_D A [(x1, .inr (0, [.int w1, .int z1, .double l1, .double g1, .double a1, .double s1])), (x2, .inr (0, [.int w2, .int z2, .double (FP.dadd l2 (goev z2 l2 l1)), .double (mixv l2 g2 (goev z2 l2 l1) g1), .double (mixv l2 a2 (goev z2 l2 l1) a1), .double (mixv l2 s2 (goev z2 l2 l1) s1)]))] := hD
    refine lv_aload_n hx hb dX1_passBetween_67 rfl (lv_at hl 3 rfl) ?_
    refine lv_dload hx hb dX1_passBetween_68 (lv_at hl 0 rfl) ?_
    refine ko_v (k := 0) (va_runV (As := [.double (goev z2 l2 l1)]) (rest := []) ⟨hx, hb, hml, hown, hts⟩ (metX0_takeOut l D H.size x1 w1 z1 l1 g1 a1 s1 (goev z2 l2 l1) m4 (gt_ne m5)) (cwV 1 hts gX1_passBetween_X0_takeOut rfl rfl rfl (by decide +kernel) ⟨Nat.le_of_ble_eq_true rfl, Nat.le_of_ble_eq_true rfl⟩) (pmV 0 0 RX0 TX0 6 rfl rfl (vj_oP (k := 0) rfl hP) (hK.sub [] rfl) (vj_oD (k := 0) rfl hD)) rfl rfl hl.1 rfl (lv_room (Nat.le_of_ble_eq_true rfl)) dX1_passBetween_70 ⟨Nat.le_of_ble_eq_true rfl, Nat.le_of_ble_eq_true rfl⟩) rfl hP hD hS hA (fun H locs hP hD hS => ?_)
    have ek : tkE w1 z1 l1 g1 a1 s1 (goev z2 l2 l1) = EB w1 z1 (FP.dsub l1 (goev z2 l2 l1)) g1 a1 s1 := by unfold tkE; rw [if_pos m5]
    rw [ek] at hP hD
    have hP : va_P D vwCl [(x1, .inr (0, [.int w1, .int z1, .double (FP.dsub l1 (goev z2 l2 l1)), .double g1, .double a1, .double s1])), (x2, .inr (0, [.int w2, .int z2, .double (FP.dadd l2 (goev z2 l2 l1)), .double (mixv l2 g2 (goev z2 l2 l1) g1), .double (mixv l2 a2 (goev z2 l2 l1) a1), .double (mixv l2 s2 (goev z2 l2 l1) s1)]))] H := hP
    have hD : va_D A [(x1, .inr (0, [.int w1, .int z1, .double (FP.dsub l1 (goev z2 l2 l1)), .double g1, .double a1, .double s1])), (x2, .inr (0, [.int w2, .int z2, .double (FP.dadd l2 (goev z2 l2 l1)), .double (mixv l2 g2 (goev z2 l2 l1) g1), .double (mixv l2 a2 (goev z2 l2 l1) a1), .double (mixv l2 s2 (goev z2 l2 l1) s1)]))] := hD
    refine lv_dload hx hb dX1_passBetween_73 (lv_at hl 0 rfl) ?_
    exact W.dret hx hb hr (fun t ht hW => ⟨⟨_, (), rfl, rfl, by rw [ht]; exact hP, va_K.moved hW.alike hK, hD⟩, hS.F ht⟩) hS.2.2 dX1_passBetween_75
set_option maxHeartbeats 4000000 in
set_option maxRecDepth 100000 in
/-- .. where nothing goes -/
theorem metX1_passBetween_n (l : Launch) (D : va_G) (sz : Nat) (x1 x2 : Nat) (w1 z1 : Int32) (l1 g1 a1 s1 : UInt64) (w2 z2 : Int32) (l2 g2 a2 s2 : UInt64) (hp : paok z2 l1 g1 a1 s1 l2 g2 a2 s2) (hg : FP.dcmp (goev z2 l2 l1) 0 ≠ some .gt) : Met l yX1_passBetween wsX1_passBetween { frames := 2, cells := 0, slots := 0, locals := 57 } (Pm D [] [.ref x1, .ref x2] ([(x1, .inr (0, [.int w1, .int z1, .double l1, .double g1, .double a1, .double s1])), (x2, .inr (0, [.int w2, .int z2, .double l2, .double g2, .double a2, .double s2]))]) sz) (va_Qd (fun (r : UInt64) (_ : Unit) => r = 0) (Bm D [] (va_A ([(x1, .inr (0, [.int w1, .int z1, .double l1, .double g1, .double a1, .double s1])), (x2, .inr (0, [.int w2, .int z2, .double l2, .double g2, .double a2, .double s2]))]) sz) ([(x1, .inr (0, [.int w1, .int z1, .double l1, .double g1, .double a1, .double s1])), (x2, .inr (0, [.int w2, .int z2, .double l2, .double g2, .double a2, .double s2]))])) (va_A ([(x1, .inr (0, [.int w1, .int z1, .double l1, .double g1, .double a1, .double s1])), (x2, .inr (0, [.int w2, .int z2, .double l2, .double g2, .double a2, .double s2]))]) sz)) 0 0 (va_A ([(x1, .inr (0, [.int w1, .int z1, .double l1, .double g1, .double a1, .double s1])), (x2, .inr (0, [.int w2, .int z2, .double l2, .double g2, .double a2, .double s2]))]) sz) := by
  refine Met.ofW (cc := cX1_passBetween) (maxL := 8) (ret := (some .double)) (by decide) rfl ?_
  intro p e s m args below meth c s₁ B hml hv
  obtain ⟨rfl, hsz, hP, hK, hD0⟩ := hv
  have hx := B.exec
  have hb := B.bytes
  have hr := B.returns
  have hts := atoms_spec (ws := wsX1_passBetween) B.pre
  have hown : s.vm.findClass RX1 = some m.cls := findClass_of_methodNamed B.named
  have hlocks := B.notSynchronized
  subst hsz
  have hD := hD0.self (sz := s.heap.size)
  generalize hAe : va_A ([(x1, .inr (0, [.int w1, .int z1, .double l1, .double g1, .double a1, .double s1])), (x2, .inr (0, [.int w2, .int z2, .double l2, .double g2, .double a2, .double s2]))]) s.heap.size = A at hD ⊢
  have hA : ∀ q : Nat, s.heap.size ≤ q → A q := fun q h => by rw [← hAe]; exact Or.inr h
  refine kW_H (fun H hH => ?_)
  have hP : va_P D vwCl ([(x1, .inr (0, [.int w1, .int z1, .double l1, .double g1, .double a1, .double s1])), (x2, .inr (0, [.int w2, .int z2, .double l2, .double g2, .double a2, .double s2]))]) H := by rw [hH]; exact hP
  have hS : va_S A s.heap H [] := by rw [hH]; exact va_S.rf
  have hl := lv_entry ([.ref x1, .ref x2]) (n := 8) (Nat.le_of_ble_eq_true rfl)
  rw [lg_entry_eq]
  generalize (lg_sl ([.ref x1, .ref x2]) ++ List.replicate (8 - (lg_sl ([.ref x1, .ref x2])).length) Slot.unset).toArray = ls at hl ⊢
  have hl : lv_has ls 8 [(0, .ref x1), (1, .ref x2)] := hl
  obtain ⟨q1, q2, q3, q4, q5, q6⟩ := hp
  refine lv_ldc2d hx hb hown (hts (.constantDouble RX1 62 4606281698874543309) (by decide +kernel)) dX1_passBetween_0 ?_
  refine lv_aload_n hx hb dX1_passBetween_3 rfl (lv_at hl 1 rfl) ?_
  refine va_get (D := D) (ci := 0) (v := .int z2) (C := RX0) (T := TX0) (N := 6) hx hb hts (by decide +kernel) hown hK hP (1) rfl rfl 1 (by decide) (hts (.fieldLink RX1 36 "VinegarLoft$Barrel" "size" "I") (by decide +kernel)) (fun _ h9 => h9) rfl dX1_passBetween_4 ?_
  refine lv_i2d hx hb dX1_passBetween_7 ?_
  refine lv_dmul hx hb dX1_passBetween_8 q1 ?_
  refine lv_aload_n hx hb dX1_passBetween_9 rfl (lv_at hl 1 rfl) ?_
  refine va_get (D := D) (ci := 0) (v := .double l2) (C := RX0) (T := TX0) (N := 6) hx hb hts (by decide +kernel) hown hK hP (1) rfl rfl 2 (by decide) (hts (.fieldLink RX1 49 "VinegarLoft$Barrel" "litres" "D") (by decide +kernel)) (fun _ h9 => h9) rfl dX1_passBetween_10 ?_
  refine lv_dsub hx hb dX1_passBetween_13 q2 ?_
  refine lv_dstore_n (lv' := [(2, .double (FP.dsub (FP.dmul 4606281698874543309 (FP.i2d z2)) l2)), (0, .ref x1), (1, .ref x2)]) hx hb dX1_passBetween_14 rfl hl (by decide) rfl (fun ls hl => ?_)
  refine lv_ldc2d hx hb hown (hts (.constantDouble RX1 64 4602678819172646912) (by decide +kernel)) dX1_passBetween_15 ?_
  refine lv_aload_n hx hb dX1_passBetween_18 rfl (lv_at hl 1 rfl) ?_
  refine va_get (D := D) (ci := 0) (v := .double l1) (C := RX0) (T := TX0) (N := 6) hx hb hts (by decide +kernel) hown hK hP (0) rfl rfl 2 (by decide) (hts (.fieldLink RX1 49 "VinegarLoft$Barrel" "litres" "D") (by decide +kernel)) (fun _ h9 => h9) rfl dX1_passBetween_19 ?_
  refine lv_dmul hx hb dX1_passBetween_22 q3 ?_
  refine lv_dstore (lv' := [(4, .double (FP.dmul 4602678819172646912 l1)), (2, .double (FP.dsub (FP.dmul 4606281698874543309 (FP.i2d z2)) l2)), (0, .ref x1), (1, .ref x2)]) hx hb dX1_passBetween_23 hl (by decide) rfl (fun ls hl => ?_)
  refine lv_dload_n hx hb dX1_passBetween_25 rfl (lv_at hl 1 rfl) ?_
  refine lv_dload hx hb dX1_passBetween_26 (lv_at hl 0 rfl) ?_
  refine kd_ge (tgt := 36) hx hb dX1_passBetween_28 dX1_passBetween_29 (by decide) q4 (fun c28 => ?_) (fun c28 => ?_)
  · refine lv_dload hx hb dX1_passBetween_36 (lv_at hl 0 rfl) ?_
    refine kd_eq (show (FP.dmul 4602678819172646912 l1) = goev z2 l2 l1 from by unfold goev lesv; rw [if_neg c28]) ?_
    refine lv_dstore (lv' := [(6, .double (goev z2 l2 l1)), (4, .double (FP.dmul 4602678819172646912 l1)), (2, .double (FP.dsub (FP.dmul 4606281698874543309 (FP.i2d z2)) l2)), (0, .ref x1), (1, .ref x2)]) hx hb dX1_passBetween_38 hl (by decide) rfl (fun ls hl => ?_)
    refine lv_dload hx hb dX1_passBetween_40 (lv_at hl 0 rfl) ?_
    refine kd_0 hx hb dX1_passBetween_42 ?_
    refine kd_gt (tgt := 49) hx hb dX1_passBetween_43 dX1_passBetween_44 (by decide) q5 (fun c43 => absurd c43 hg) (fun c43 => ?_)
    refine kd_0 hx hb dX1_passBetween_47 ?_
    exact W.dret hx hb hr (fun t ht hW => ⟨⟨_, (), rfl, rfl, by rw [ht]; exact hP, va_K.moved hW.alike hK, hD⟩, hS.F ht⟩) hS.2.2 dX1_passBetween_48
  · refine lv_dload_n hx hb dX1_passBetween_32 rfl (lv_at hl 1 rfl) ?_
    refine lv_goto (tgt := 38) hx hb dX1_passBetween_33 (by decide) ?_
    refine kd_eq (show (FP.dsub (FP.dmul 4606281698874543309 (FP.i2d z2)) l2) = goev z2 l2 l1 from by unfold goev lesv; rw [if_pos c28]) ?_
    refine lv_dstore (lv' := [(6, .double (goev z2 l2 l1)), (4, .double (FP.dmul 4602678819172646912 l1)), (2, .double (FP.dsub (FP.dmul 4606281698874543309 (FP.i2d z2)) l2)), (0, .ref x1), (1, .ref x2)]) hx hb dX1_passBetween_38 hl (by decide) rfl (fun ls hl => ?_)
    refine lv_dload hx hb dX1_passBetween_40 (lv_at hl 0 rfl) ?_
    refine kd_0 hx hb dX1_passBetween_42 ?_
    refine kd_gt (tgt := 49) hx hb dX1_passBetween_43 dX1_passBetween_44 (by decide) q5 (fun c43 => absurd c43 hg) (fun c43 => ?_)
    refine kd_0 hx hb dX1_passBetween_47 ?_
    exact W.dret hx hb hr (fun t ht hW => ⟨⟨_, (), rfl, rfl, by rw [ht]; exact hP, va_K.moved hW.alike hK, hD⟩, hS.F ht⟩) hS.2.2 dX1_passBetween_48
end
section
/-! VinegarLoft$Row: its methods, second half (laid by wip/whole/prog/x1b.py) -/
section ROWX
variable {r la : Nat} {bs : Nat → Nat} {cA : ClassId} {n wm df : Int32} {q : UInt64} {wd zs : Nat → Int32} {h : Nat → UInt64}
theorem rowW_tk {b : Nat} (hb : b < 8) (less : UInt64) : (rowW r la bs cA n wm df q wd zs h).set (2 + b) (bs b, tkE (wd b) (zs b) (h b) (h (8 + b)) (h (16 + b)) (h (24 + b)) less) = rowW r la bs cA n wm df q wd zs (tkH h b less) := by
  unfold tkE tkH
  split
  · exact rowW_sh hb _ _ _ _
  · exact rowW_sh hb _ _ _ _
/-- barrel k + 1 got from barrel k -/
theorem rowW_pa {k : Nat} (hk : k + 1 < 8) (hg : FP.dcmp (paG zs h k) 0 = some .gt) : ((rowW r la bs cA n wm df q wd zs h).set (2 + k) (bs k, EB (wd k) (zs k) (FP.dsub (h k) (paG zs h k)) (h (8 + k)) (h (16 + k)) (h (24 + k)))).set (2 + (k + 1)) (bs (k + 1), EB (wd (k + 1)) (zs (k + 1)) (FP.dadd (h (k + 1)) (paG zs h k)) (mixv (h (k + 1)) (h (8 + (k + 1))) (paG zs h k) (h (8 + k))) (mixv (h (k + 1)) (h (16 + (k + 1))) (paG zs h k) (h (16 + k))) (mixv (h (k + 1)) (h (24 + (k + 1))) (paG zs h k) (h (24 + k)))) = rowW r la bs cA n wm df q wd zs (paH zs h k) := by
  rw [List.set_comm _ _ (by omega), rowW_sh hk]
  unfold paH
  rw [if_pos hg]
  refine Eq.trans ?_ (rowW_sh (show k < 8 by omega) _ _ _ _)
  rfl
theorem rowW_id {i : Nat} (hi : i < 8) : (rowW r la bs cA n wm df q wd zs h).set (2 + i) (bs i, Bk wd zs h i) = rowW r la bs cA n wm df q wd zs h :=
  lt8 (P := fun i => (rowW r la bs cA n wm df q wd zs h).set (2 + i) (bs i, Bk wd zs h i) = rowW r la bs cA n wm df q wd zs h) rfl rfl rfl rfl rfl rfl rfl rfl hi
/-- two rows -/
theorem rowT_1 {w2 : va_W} {i : Nat} (hi : i < 8) : (rowW r la bs cA n wm df q wd zs h ++ w2)[2 + i]? = some (bs i, Bk wd zs h i) := vj_inA (rowW_b hi)
theorem rowT_2 {w1 : va_W} (h1 : w1.length = 10) {i : Nat} (hi : i < 8) : (w1 ++ rowW r la bs cA n wm df q wd zs h)[10 + (2 + i)]? = some (bs i, Bk wd zs h i) := by
  rw [List.getElem?_append_right (by omega), show 10 + (2 + i) - w1.length = 2 + i by omega]
  exact rowW_b hi
end ROWX
theorem rowT_cp {r la : Nat} {bs : Nat → Nat} {cA : ClassId} {n wm df : Int32} {q : UInt64} {wd zs : Nat → Int32} {h : Nat → UInt64} {r2 la2 : Nat} {bs2 : Nat → Nat} {n2 wm2 df2 : Int32} {q2 : UInt64} {wd2 zs2 : Nat → Int32} {h2 : Nat → UInt64} {i : Nat} (hi : i < 8) :
    ((rowW r la bs cA n wm df q wd zs h ++ rowW r2 la2 bs2 cA n2 wm2 df2 q2 wd2 zs2 h2).set (2 + i) (bs i, Bk wd2 zs2 h2 i)).set (10 + (2 + i)) (bs2 i, Bk wd2 zs2 h2 i) = rowW r la bs cA n wm df q (va_up wd i (wd2 i)) (va_up zs i (zs2 i)) (hset h i (h2 i) (h2 (8 + i)) (h2 (16 + i)) (h2 (24 + i))) ++ rowW r2 la2 bs2 cA n2 wm2 df2 q2 wd2 zs2 h2 := by
  have hl : ∀ (w : Nat → Int32) (z : Nat → Int32) (g : Nat → UInt64), (rowW r la bs cA n wm df q w z g).length = 10 := fun _ _ _ => rfl
  rw [List.set_append_left _ _ (by rw [hl]; omega)]
  rw [List.set_append_right _ _ (by rw [List.length_set, hl]; omega), List.length_set, hl, show 10 + (2 + i) - 10 = 2 + i by omega, rowW_id hi]
  congr 1
  refine Eq.trans ?_ (rowW_sh (wd := va_up wd i (wd2 i)) (zs := va_up zs i (zs2 i)) hi (h2 i) (h2 (8 + i)) (h2 (16 + i)) (h2 (24 + i)))
  rw [va_up_self, va_up_self, ← rowW_sw hi, ← rowW_sz hi]
  exact lt8 (P := fun i => (rowW r la bs cA n wm df q wd zs h).set (2 + i) (bs i, Bk wd2 zs2 h2 i) = (((rowW r la bs cA n wm df q wd zs h).set (2 + i) (bs i, EB (wd i) (zs2 i) (h i) (h (8 + i)) (h (16 + i)) (h (24 + i)))).set (2 + i) (bs i, EB (wd2 i) (va_up zs i (zs2 i) i) (h i) (h (8 + i)) (h (16 + i)) (h (24 + i)))).set (2 + i) (bs i, EB (wd2 i) (zs2 i) (h2 i) (h2 (8 + i)) (h2 (16 + i)) (h2 (24 + i)))) rfl rfl rfl rfl rfl rfl rfl rfl hi
set_option maxHeartbeats 4000000 in
set_option maxRecDepth 100000 in
/-- takeBottles(bottles), from the barrel b of the year -/
theorem metX1_takeBottles (l : Launch) (D : va_G) (sz : Nat) (r la : Nat) (bs : Nat → Nat) (cA : ClassId) (n : Nat) (hn : n ≤ 8) (wm : Int32) (q : UInt64) (wd zs : Nat → Int32) (h : Nat → UInt64) (b : Nat) (hbn : b < n) (x : Int32) (t0 : vf_n64 (botv x)) (t1 : vf_n64 (FP.dsub q (botv x))) (t2 : vf_n64 (FP.dsub (h b) (botv x))) (t3 : FP.dcmp (FP.dsub (h b) (botv x)) 0 ≠ none) : Met l yX1_takeBottles wsX1_takeBottles { frames := 2, cells := 0, slots := 0, locals := 42 } (Pm D [(cA, .object "VinegarLoft$Barrel")] [.ref r, .int x] (rowW r la bs cA (nI n) wm (nI b) q wd zs h) sz) (va_Qv (fun (_ : Unit) => True) (Bm D [(cA, .object "VinegarLoft$Barrel")] (va_A (rowW r la bs cA (nI n) wm (nI b) q wd zs h) sz) (rowW r la bs cA (nI n) wm (nI b) (FP.dsub q (botv x)) wd zs (tkH h b (botv x)))) (va_A (rowW r la bs cA (nI n) wm (nI b) q wd zs h) sz)) 0 0 (va_A (rowW r la bs cA (nI n) wm (nI b) q wd zs h) sz) := by
  refine Met.ofW (cc := cX1_takeBottles) (maxL := 4) (ret := none) (by decide) rfl ?_
  intro p e s m args below meth c s₁ B hml hv
  obtain ⟨rfl, hsz, hP, hK, hD0⟩ := hv
  have hx := B.exec
  have hb := B.bytes
  have hr := B.returns
  have hts := atoms_spec (ws := wsX1_takeBottles) B.pre
  have hown : s.vm.findClass RX1 = some m.cls := findClass_of_methodNamed B.named
  have hlocks := B.notSynchronized
  subst hsz
  have hD := hD0.self (sz := s.heap.size)
  generalize hAe : va_A (rowW r la bs cA (nI n) wm (nI b) q wd zs h) s.heap.size = A at hD ⊢
  have hA : ∀ q : Nat, s.heap.size ≤ q → A q := fun q h => by rw [← hAe]; exact Or.inr h
  refine kW_H (fun H hH => ?_)
  have hP : va_P D vwCl (rowW r la bs cA (nI n) wm (nI b) q wd zs h) H := by rw [hH]; exact hP
  have hS : va_S A s.heap H [] := by rw [hH]; exact va_S.rf
  have hl := lv_entry ([.ref r, .int x]) (n := 4) (Nat.le_of_ble_eq_true rfl)
  rw [lg_entry_eq]
  generalize (lg_sl ([.ref r, .int x]) ++ List.replicate (4 - (lg_sl ([.ref r, .int x])).length) Slot.unset).toArray = ls at hl ⊢
  have hl : lv_has ls 4 [(0, .ref r), (1, .int x)] := hl
  refine lv_aload_n hx hb dX1_takeBottles_0 rfl (lv_at hl 0 rfl) ?_
  refine va_get (D := D) (ci := 1) (v := .int (nI b)) (C := RX1) (T := TX1) (N := 5) hx hb hts (by decide +kernel) hown hK hP (0) rfl rfl 3 (by decide) (hts (.fieldLink RX1 25 "VinegarLoft$Row" "drawnFrom" "I") (by decide +kernel)) (fun _ h9 => h9) rfl dX1_takeBottles_1 ?_
  refine lv_iconst (v := (-1)) hx hb dX1_takeBottles_4 (by decide) ?_
  refine lv_icmp_ne (tgt := 9) hx hb dX1_takeBottles_5 (by decide) (fun c5 => ?_) (fun c5 => absurd c5 (nI_m1 (show b < 8 by omega)))
  refine lv_iload_n hx hb dX1_takeBottles_9 rfl (lv_at hl 1 rfl) ?_
  refine lv_i2d hx hb dX1_takeBottles_10 ?_
  refine lv_ldc2d hx hb hown (hts (.constantDouble RX1 104 4591870180066957722) (by decide +kernel)) dX1_takeBottles_11 ?_
  refine lv_dmul hx hb dX1_takeBottles_14 t0 ?_
  refine lv_dstore_n (lv' := [(2, .double (botv x)), (0, .ref r), (1, .int x)]) hx hb dX1_takeBottles_15 rfl hl (by decide) rfl (fun ls hl => ?_)
  refine lv_aload_n hx hb dX1_takeBottles_16 rfl (lv_at hl 1 rfl) ?_
  refine lv_aload_n hx hb dX1_takeBottles_17 rfl (lv_at hl 1 rfl) ?_
  refine va_get (D := D) (ci := 1) (v := .double q) (C := RX1) (T := TX1) (N := 5) hx hb hts (by decide +kernel) hown hK hP (0) rfl rfl 4 (by decide) (hts (.fieldLink RX1 28 "VinegarLoft$Row" "mayBeDrawn" "D") (by decide +kernel)) (fun _ h9 => h9) rfl dX1_takeBottles_18 ?_
  refine lv_dload_n hx hb dX1_takeBottles_21 rfl (lv_at hl 0 rfl) ?_
  refine lv_dsub hx hb dX1_takeBottles_22 t1 ?_
  refine va_put (D := D) (ci := 1) (v := .double (FP.dsub q (botv x))) (ty := .double) (C := RX1) (T := TX1) (N := 5) hx hb hts (by decide +kernel) tyX1 tyX1_ok nmX1 hown hK hP hD hS (0) rfl rfl 4 (by decide) (hts (.fieldLink RX1 28 "VinegarLoft$Row" "mayBeDrawn" "D") (by decide +kernel)) (fun _ h9 => h9) rfl (by decide +kernel) rfl rfl (Nat.le_of_ble_eq_true rfl) dX1_takeBottles_23 (fun H locs hP hD hS => ?_)
  have hP : va_P D vwCl (rowW r la bs cA (nI n) wm (nI b) (FP.dsub q (botv x)) wd zs h) H := hP
  have hD : va_D A (rowW r la bs cA (nI n) wm (nI b) (FP.dsub q (botv x)) wd zs h) := hD
  refine lv_aload_n hx hb dX1_takeBottles_26 rfl (lv_at hl 1 rfl) ?_
  refine va_get (D := D) (ci := 1) (v := .ref la) (C := RX1) (T := TX1) (N := 5) hx hb hts (by decide +kernel) hown hK hP (0) rfl rfl 0 (by decide) (hts (.fieldLink RX1 11 "VinegarLoft$Row" "line" "[LVinegarLoft$Barrel;") (by decide +kernel)) (fun _ h9 => h9) rfl dX1_takeBottles_27 ?_
  refine lv_aload_n hx hb dX1_takeBottles_30 rfl (lv_at hl 1 rfl) ?_
  refine va_get (D := D) (ci := 1) (v := .int (nI b)) (C := RX1) (T := TX1) (N := 5) hx hb hts (by decide +kernel) hown hK hP (0) rfl rfl 3 (by decide) (hts (.fieldLink RX1 25 "VinegarLoft$Row" "drawnFrom" "I") (by decide +kernel)) (fun _ h9 => h9) rfl dX1_takeBottles_31 ?_
  refine kx_ald hx hb hK hP (1) 0 rfl rfl (j := b) rfl (by omega) dX1_takeBottles_34 ?_
  refine lv_dload_n hx hb dX1_takeBottles_35 rfl (lv_at hl 0 rfl) ?_
  refine ko_v (va_runV (As := [.double (botv x)]) (rest := []) ⟨hx, hb, hml, hown, hts⟩ (metX0_takeOut l D H.size (bs b) (wd b) (zs b) (h b) (h (8 + b)) (h (16 + b)) (h (24 + b)) (botv x) t2 t3) (cwV 1 hts gX1_takeBottles_X0_takeOut rfl rfl rfl (by decide +kernel) ⟨Nat.le_of_ble_eq_true rfl, Nat.le_of_ble_eq_true rfl⟩) (pmV 0 0 RX0 TX0 6 rfl rfl (vj_oP (rowW_b (show b < 8 by omega)) hP) (hK.sub [] rfl) (vj_oD (rowW_b (show b < 8 by omega)) hD)) rfl rfl hl.1 rfl (lv_room (Nat.le_of_ble_eq_true rfl)) dX1_takeBottles_36 ⟨Nat.le_of_ble_eq_true rfl, Nat.le_of_ble_eq_true rfl⟩) (rowW_b (show b < 8 by omega)) hP hD hS hA (fun H locs hP hD hS => ?_)
  have hP : va_P D vwCl (rowW r la bs cA (nI n) wm (nI b) (FP.dsub q (botv x)) wd zs (tkH h b (botv x))) H := by rw [← rowW_tk (show b < 8 by omega)]; exact hP
  have hD : va_D A (rowW r la bs cA (nI n) wm (nI b) (FP.dsub q (botv x)) wd zs (tkH h b (botv x))) := by rw [← rowW_tk (show b < 8 by omega)]; exact hD
  exact W.vret hx hb hr (fun t ht hW => ⟨⟨(), rfl, trivial, by rw [ht]; exact hP, va_K.moved hW.alike hK, hD⟩, hS.F ht⟩) hS.2.2 dX1_takeBottles_39
theorem dadd_0 {a : UInt64} (h : NN a) : FP.dadd a 0 = a := by
  refine FP.Core.dadd_zero h.ne (fun e => ?_)
  have h1 := h.lt63
  rw [e] at h1
  exact absurd h1 (by decide +kernel)
set_option maxHeartbeats 4000000 in
set_option maxRecDepth 100000 in
/-- passDown() -/
theorem metX1_passDown (l : Launch) (D : va_G) (sz : Nat) (r la : Nat) (bs : Nat → Nat) (cA : ClassId) (n : Nat) (hn : n ≤ 8) (wm df : Int32) (q : UInt64) (wd zs : Nat → Int32) (h : Nat → UInt64) (ht : took zs (n - 1) h 0) : Met l yX1_passDown wsX1_passDown { frames := 3, cells := 0, slots := 0, locals := 84 } (Pm D [(cA, .object "VinegarLoft$Barrel")] [.ref r] (rowW r la bs cA (nI n) wm df q wd zs h) sz) (va_Qd (fun (r : UInt64) (_ : Unit) => r = toS zs (n - 1) h 0) (Bm D [(cA, .object "VinegarLoft$Barrel")] (va_A (rowW r la bs cA (nI n) wm df q wd zs h) sz) (rowW r la bs cA (nI n) wm df q wd zs (toH zs (n - 1) h))) (va_A (rowW r la bs cA (nI n) wm df q wd zs h) sz)) 0 0 (va_A (rowW r la bs cA (nI n) wm df q wd zs h) sz) := by
  refine Met.ofW (cc := cX1_passDown) (maxL := 4) (ret := (some .double)) (by decide) rfl ?_
  intro p e s m args below meth c s₁ B hml hv
  obtain ⟨rfl, hsz, hP, hK, hD0⟩ := hv
  have hx := B.exec
  have hb := B.bytes
  have hr := B.returns
  have hts := atoms_spec (ws := wsX1_passDown) B.pre
  have hown : s.vm.findClass RX1 = some m.cls := findClass_of_methodNamed B.named
  have hlocks := B.notSynchronized
  subst hsz
  have hD := hD0.self (sz := s.heap.size)
  generalize hAe : va_A (rowW r la bs cA (nI n) wm df q wd zs h) s.heap.size = A at hD ⊢
  have hA : ∀ q : Nat, s.heap.size ≤ q → A q := fun q h => by rw [← hAe]; exact Or.inr h
  refine kW_H (fun H hH => ?_)
  have hP : va_P D vwCl (rowW r la bs cA (nI n) wm df q wd zs h) H := by rw [hH]; exact hP
  have hS : va_S A s.heap H [] := by rw [hH]; exact va_S.rf
  have hl := lv_entry ([.ref r]) (n := 4) (Nat.le_of_ble_eq_true rfl)
  rw [lg_entry_eq]
  generalize (lg_sl ([.ref r]) ++ List.replicate (4 - (lg_sl ([.ref r])).length) Slot.unset).toArray = ls at hl ⊢
  have hl : lv_has ls 4 [(0, .ref r)] := hl
  refine kd_0 hx hb dX1_passDown_0 ?_
  refine lv_dstore_n (lv' := [(1, .double 0), (0, .ref r)]) hx hb dX1_passDown_1 rfl hl (by decide) rfl (fun ls hl => ?_)
  refine lv_aload_n hx hb dX1_passDown_2 rfl (lv_at hl 1 rfl) ?_
  refine va_get (D := D) (ci := 1) (v := .int (nI n)) (C := RX1) (T := TX1) (N := 5) hx hb hts (by decide +kernel) hown hK hP (0) rfl rfl 1 (by decide) (hts (.fieldLink RX1 18 "VinegarLoft$Row" "count" "I") (by decide +kernel)) (fun _ h9 => h9) rfl dX1_passDown_3 ?_
  refine lv_iconst (v := 1) hx hb dX1_passDown_6 (by decide) ?_
  refine lv_isub hx hb dX1_passDown_7 ?_
  refine lv_istore_n (lv' := [(3, .int ((nI n) - 1)), (1, .double 0), (0, .ref r)]) hx hb dX1_passDown_8 rfl hl (by decide) rfl (fun ls hl => ?_)
  by_cases h0 : n = 0
  · subst h0
    have hl : lv_has ls 4 [(3, .int (-1)), (1, .double 0), (0, .ref r)] := hl
    refine lv_iload_n hx hb dX1_passDown_9 rfl (lv_at hl 0 rfl) ?_
    refine lv_if_le (tgt := 39) hx hb dX1_passDown_10 (by decide) (fun c10 => ?_) (fun c10 => absurd (by decide) c10)
    refine lv_dload_n hx hb dX1_passDown_39 rfl (lv_at hl 1 rfl) ?_
    exact W.dret hx hb hr (fun t ht hW => ⟨⟨_, (), rfl, rfl, by rw [ht]; exact hP, va_K.moved hW.alike hK, hD⟩, hS.F ht⟩) hS.2.2 dX1_passDown_40
  have h0 : 0 < n := by omega
  rw [nI_p h0] at hl
  refine kW_dn (n - 1) (fun i H locs ls => ∃ (h' : Nat → UInt64) (s' : UInt64), toH zs i h' = toH zs (n - 1) h ∧ toS zs i h' s' = toS zs (n - 1) h 0 ∧ took zs i h' s' ∧ va_P D vwCl (rowW r la bs cA (nI n) wm df q wd zs (h')) H ∧ va_D A (rowW r la bs cA (nI n) wm df q wd zs (h')) ∧ va_S A s.heap H locs ∧ lv_has ls 4 [(3, .int (nI i)), (1, .double s'), (0, .ref r)]) (fun i H locs ls hi hI ih => ?_) (fun H locs ls hI => ?_) ⟨h, 0, rfl, rfl, ht, hP, hD, hS, lv_sub hl [0, 1, 2] rfl⟩
  · obtain ⟨h', s', e1, e2, e3, hP, hD, hS, hl⟩ := hI
    obtain ⟨⟨ok, hs, hv⟩, e3⟩ := e3
    refine lv_iload_n hx hb dX1_passDown_9 rfl (lv_at hl 0 rfl) ?_
    refine lv_if_le (tgt := 39) hx hb dX1_passDown_10 (by decide) (fun c10 => absurd c10 (nI_nle (by omega) (by omega))) (fun c10 => ?_)
    refine lv_dload_n hx hb dX1_passDown_13 rfl (lv_at hl 1 rfl) ?_
    refine lv_aload_n hx hb dX1_passDown_14 rfl (lv_at hl 2 rfl) ?_
    refine va_get (D := D) (ci := 1) (v := .ref la) (C := RX1) (T := TX1) (N := 5) hx hb hts (by decide +kernel) hown hK hP (0) rfl rfl 0 (by decide) (hts (.fieldLink RX1 11 "VinegarLoft$Row" "line" "[LVinegarLoft$Barrel;") (by decide +kernel)) (fun _ h9 => h9) rfl dX1_passDown_15 ?_
    refine lv_iload_n hx hb dX1_passDown_18 rfl (lv_at hl 0 rfl) ?_
    refine lv_iconst (v := 1) hx hb dX1_passDown_19 (by decide) ?_
    refine lv_isub hx hb dX1_passDown_20 ?_
    refine kx_ald hx hb hK hP (1) 0 rfl rfl (j := i) (nI_pred i) (by omega) dX1_passDown_21 ?_
    refine lv_aload_n hx hb dX1_passDown_22 rfl (lv_at hl 2 rfl) ?_
    refine va_get (D := D) (ci := 1) (v := .ref la) (C := RX1) (T := TX1) (N := 5) hx hb hts (by decide +kernel) hown hK hP (0) rfl rfl 0 (by decide) (hts (.fieldLink RX1 11 "VinegarLoft$Row" "line" "[LVinegarLoft$Barrel;") (by decide +kernel)) (fun _ h9 => h9) rfl dX1_passDown_23 ?_
    refine lv_iload_n hx hb dX1_passDown_26 rfl (lv_at hl 0 rfl) ?_
    refine kx_ald hx hb hK hP (1) 0 rfl rfl (j := i + 1) rfl (by omega) dX1_passDown_27 ?_
    by_cases g : FP.dcmp (paG zs h' i) 0 = some .gt
    · refine kt_d (k1 := 2 + i) (k2 := 2 + (i + 1)) (va_runS (As := [.ref (bs i), .ref (bs (i + 1))]) (rest := [.double s']) ⟨hx, hb, hml, hown, hts⟩ (metX1_passBetween_y l D H.size (bs i) (bs (i + 1)) (wd i) (zs i) ((h') i) ((h') (8 + i)) ((h') (16 + i)) ((h') (24 + i)) (wd (i + 1)) (zs (i + 1)) ((h') (i + 1)) ((h') (8 + (i + 1))) ((h') (16 + (i + 1))) ((h') (24 + (i + 1))) ok g) (va_cwS 2 hts gX1_passDown_X1_passBetween rfl rfl rfl (by decide +kernel) ⟨Nat.le_of_ble_eq_true rfl, Nat.le_of_ble_eq_true rfl⟩) (pmS (vj_tP (k1 := 2 + i) (k2 := 2 + (i + 1)) (rowW_b (show i < 8 by omega)) (rowW_b (show i + 1 < 8 by omega)) hP) (hK.sub [] rfl) (vj_tD (k1 := 2 + i) (k2 := 2 + (i + 1)) (rowW_b (show i < 8 by omega)) (rowW_b (show i + 1 < 8 by omega)) (by omega) hD)) rfl rfl hl.1 rfl (lv_room (Nat.le_of_ble_eq_true rfl)) dX1_passDown_28 ⟨Nat.le_of_ble_eq_true rfl, Nat.le_of_ble_eq_true rfl⟩) (rowW_b (show i < 8 by omega)) (rowW_b (show i + 1 < 8 by omega)) (by omega) hP hD hS hA (fun H locs hP hD hS => ?_)
      have hP : va_P D vwCl (rowW r la bs cA (nI n) wm df q wd zs (paH zs h' i)) H := by rw [← rowW_pa (show i + 1 < 8 by omega) g]; exact hP
      have hD : va_D A (rowW r la bs cA (nI n) wm df q wd zs (paH zs h' i)) := by rw [← rowW_pa (show i + 1 < 8 by omega) g]; exact hD
      have hv : vf_n64 (FP.dadd s' (paG zs h' i)) := hv g
      refine lv_dadd hx hb dX1_passDown_31 hv ?_
      refine kd_eq (show FP.dadd s' (paG zs h' i) = paS zs h' i s' from by unfold paS; rw [if_pos g]) ?_
      refine lv_dstore_n (lv' := [(1, .double (paS zs h' i s')), (3, .int (nI (i + 1))), (0, .ref r)]) hx hb dX1_passDown_32 rfl hl (by decide) rfl (fun ls hl => ?_)
      refine lv_iinc (v := nI i) (lv' := [(3, .int (nI i)), (1, .double (paS zs h' i s')), (0, .ref r)]) hx hb dX1_passDown_33 hl (k := 1) rfl (pk_m1 i) (by decide) rfl (fun ls hl => ?_)
      refine lv_goto (tgt := 9) hx hb dX1_passDown_36 (by decide) ?_
      exact ih H locs ls ⟨_, _, e1, e2, e3, hP, hD, hS, lv_sub hl [0, 1, 2] rfl⟩
    · refine kt_d (k1 := 2 + i) (k2 := 2 + (i + 1)) (va_runS (As := [.ref (bs i), .ref (bs (i + 1))]) (rest := [.double s']) ⟨hx, hb, hml, hown, hts⟩ (metX1_passBetween_n l D H.size (bs i) (bs (i + 1)) (wd i) (zs i) ((h') i) ((h') (8 + i)) ((h') (16 + i)) ((h') (24 + i)) (wd (i + 1)) (zs (i + 1)) ((h') (i + 1)) ((h') (8 + (i + 1))) ((h') (16 + (i + 1))) ((h') (24 + (i + 1))) ok g) (va_cwS 2 hts gX1_passDown_X1_passBetween rfl rfl rfl (by decide +kernel) ⟨Nat.le_of_ble_eq_true rfl, Nat.le_of_ble_eq_true rfl⟩) (pmS (vj_tP (k1 := 2 + i) (k2 := 2 + (i + 1)) (rowW_b (show i < 8 by omega)) (rowW_b (show i + 1 < 8 by omega)) hP) (hK.sub [] rfl) (vj_tD (k1 := 2 + i) (k2 := 2 + (i + 1)) (rowW_b (show i < 8 by omega)) (rowW_b (show i + 1 < 8 by omega)) (by omega) hD)) rfl rfl hl.1 rfl (lv_room (Nat.le_of_ble_eq_true rfl)) dX1_passDown_28 ⟨Nat.le_of_ble_eq_true rfl, Nat.le_of_ble_eq_true rfl⟩) (rowW_b (show i < 8 by omega)) (rowW_b (show i + 1 < 8 by omega)) (by omega) hP hD hS hA (fun H locs hP hD hS => ?_)
      rw [rowW_id (show i < 8 by omega), rowW_id (show i + 1 < 8 by omega)] at hP hD
      have hP : va_P D vwCl (rowW r la bs cA (nI n) wm df q wd zs (paH zs h' i)) H := by unfold paH; rw [if_neg g]; exact hP
      have hD : va_D A (rowW r la bs cA (nI n) wm df q wd zs (paH zs h' i)) := by unfold paH; rw [if_neg g]; exact hD
      have hv : vf_n64 (FP.dadd s' 0) := by rw [dadd_0 hs]; exact hs.n64
      refine lv_dadd hx hb dX1_passDown_31 hv ?_
      refine kd_eq (show FP.dadd s' 0 = paS zs h' i s' from by unfold paS; rw [if_neg g, dadd_0 hs]) ?_
      refine lv_dstore_n (lv' := [(1, .double (paS zs h' i s')), (3, .int (nI (i + 1))), (0, .ref r)]) hx hb dX1_passDown_32 rfl hl (by decide) rfl (fun ls hl => ?_)
      refine lv_iinc (v := nI i) (lv' := [(3, .int (nI i)), (1, .double (paS zs h' i s')), (0, .ref r)]) hx hb dX1_passDown_33 hl (k := 1) rfl (pk_m1 i) (by decide) rfl (fun ls hl => ?_)
      refine lv_goto (tgt := 9) hx hb dX1_passDown_36 (by decide) ?_
      exact ih H locs ls ⟨_, _, e1, e2, e3, hP, hD, hS, lv_sub hl [0, 1, 2] rfl⟩
  · obtain ⟨h', s', e1, e2, e3, hP, hD, hS, hl⟩ := hI
    refine lv_iload_n hx hb dX1_passDown_9 rfl (lv_at hl 0 rfl) ?_
    refine lv_if_le (tgt := 39) hx hb dX1_passDown_10 (by decide) (fun c10 => ?_) (fun c10 => absurd (by decide) c10)
    refine lv_dload_n hx hb dX1_passDown_39 rfl (lv_at hl 1 rfl) ?_
    have hP : va_P D vwCl (rowW r la bs cA (nI n) wm df q wd zs (toH zs (n - 1) h)) H := by rw [← e1]; exact hP
    have hD : va_D A (rowW r la bs cA (nI n) wm df q wd zs (toH zs (n - 1) h)) := by rw [← e1]; exact hD
    exact W.dret hx hb hr (fun t ht hW => ⟨⟨_, (), rfl, e2, by rw [ht]; exact hP, va_K.moved hW.alike hK, hD⟩, hS.F ht⟩) hS.2.2 dX1_passDown_40
set_option maxHeartbeats 4000000 in
set_option maxRecDepth 100000 in
/-- ageAll() -/
theorem metX1_ageAll (l : Launch) (D : va_G) (sz : Nat) (r la : Nat) (bs : Nat → Nat) (cA : ClassId) (n : Nat) (hn : n ≤ 8) (wm df : Int32) (q : UInt64) (wd zs : Nat → Int32) (h : Nat → UInt64) (hdr : drok wm) (hok : agok wd (drv wm) h n) (hN : NNr n (agH wd (drv wm) h n)) (hq : ∀ b, b < n → vf_n64 (FP.dmul 4598175219545276416 ((agH wd (drv wm) h n) b))) : Met l yX1_ageAll wsX1_ageAll { frames := 3, cells := 0, slots := 0, locals := 70 } (Pm D [(cA, .object "VinegarLoft$Barrel")] [.ref r] (rowW r la bs cA (nI n) wm df q wd zs h) sz) (va_Qd (fun (r : UInt64) (_ : Unit) => r = agS wd (drv wm) h n) (Bm D [(cA, .object "VinegarLoft$Barrel")] (va_A (rowW r la bs cA (nI n) wm df q wd zs h) sz) (rowW r la bs cA (nI n) wm (encO (elO (agH wd (drv wm) h n) n)) (quv (agH wd (drv wm) h n) (elO (agH wd (drv wm) h n) n)) wd zs (agH wd (drv wm) h n))) (va_A (rowW r la bs cA (nI n) wm df q wd zs h) sz)) 0 0 (va_A (rowW r la bs cA (nI n) wm df q wd zs h) sz) := by
  refine Met.ofW (cc := cX1_ageAll) (maxL := 6) (ret := (some .double)) (by decide) rfl ?_
  intro p e s m args below meth c s₁ B hml hv
  obtain ⟨rfl, hsz, hP, hK, hD0⟩ := hv
  have hx := B.exec
  have hb := B.bytes
  have hr := B.returns
  have hts := atoms_spec (ws := wsX1_ageAll) B.pre
  have hown : s.vm.findClass RX1 = some m.cls := findClass_of_methodNamed B.named
  have hlocks := B.notSynchronized
  subst hsz
  have hD := hD0.self (sz := s.heap.size)
  generalize hAe : va_A (rowW r la bs cA (nI n) wm df q wd zs h) s.heap.size = A at hD ⊢
  have hA : ∀ q : Nat, s.heap.size ≤ q → A q := fun q h => by rw [← hAe]; exact Or.inr h
  refine kW_H (fun H hH => ?_)
  have hP : va_P D vwCl (rowW r la bs cA (nI n) wm df q wd zs h) H := by rw [hH]; exact hP
  have hS : va_S A s.heap H [] := by rw [hH]; exact va_S.rf
  have hl := lv_entry ([.ref r]) (n := 6) (Nat.le_of_ble_eq_true rfl)
  rw [lg_entry_eq]
  generalize (lg_sl ([.ref r]) ++ List.replicate (6 - (lg_sl ([.ref r])).length) Slot.unset).toArray = ls at hl ⊢
  have hl : lv_has ls 6 [(0, .ref r)] := hl
  refine lv_aload_n hx hb dX1_ageAll_0 rfl (lv_at hl 0 rfl) ?_
  refine kr_d (W.runV (As := []) (rest := []) ⟨hx, hb, hml, hown, hts⟩ (metX1_draughtNow l D r la bs cA n hn wm df q wd zs h hdr) (cwV 0 hts gX1_ageAll_X1_draughtNow rfl rfl rfl (by decide +kernel) ⟨Nat.le_of_ble_eq_true rfl, Nat.le_of_ble_eq_true rfl⟩) (prV 1 0 RX1 TX1 5 rfl rfl hP hK) rfl rfl hl.1 rfl (lv_room (Nat.le_of_ble_eq_true rfl)) dX1_ageAll_1 ⟨Nat.le_of_ble_eq_true rfl, Nat.le_of_ble_eq_true rfl⟩) ?_
  refine lv_dstore_n (lv' := [(1, .double (drv wm)), (0, .ref r)]) hx hb dX1_ageAll_4 rfl hl (by decide) rfl (fun ls hl => ?_)
  refine kd_0 hx hb dX1_ageAll_5 ?_
  refine lv_dstore_n (lv' := [(3, .double 0), (1, .double (drv wm)), (0, .ref r)]) hx hb dX1_ageAll_6 rfl hl (by decide) rfl (fun ls hl => ?_)
  refine lv_iconst (v := 0) hx hb dX1_ageAll_7 (by decide) ?_
  refine lv_istore (lv' := [(5, .int 0), (3, .double 0), (1, .double (drv wm)), (0, .ref r)]) hx hb dX1_ageAll_8 hl (by decide) rfl (fun ls hl => ?_)
  refine kW_up (n) (fun i H locs ls => va_P D vwCl (rowW r la bs cA (nI n) wm df q wd zs (agH wd (drv wm) h i)) H ∧ va_D A (rowW r la bs cA (nI n) wm df q wd zs (agH wd (drv wm) h i)) ∧ va_S A s.heap H locs ∧ lv_has ls 6 [(5, .int (nI i)), (3, .double (agS wd (drv wm) h i)), (1, .double (drv wm)), (0, .ref r)]) (fun i H locs ls hi hI ih => ?_) (fun H locs ls hI => ?_) ⟨hP, hD, hS, lv_sub hl [0, 1, 2, 3] (rfl)⟩
  · obtain ⟨hP, hD, hS, hl⟩ := hI
    refine lv_iload hx hb dX1_ageAll_10 (lv_at hl 0 rfl) ?_
    refine lv_aload_n hx hb dX1_ageAll_12 rfl (lv_at hl 3 rfl) ?_
    refine va_get (D := D) (ci := 1) (v := .int (nI n)) (C := RX1) (T := TX1) (N := 5) hx hb hts (by decide +kernel) hown hK hP (0) rfl rfl 1 (by decide) (hts (.fieldLink RX1 18 "VinegarLoft$Row" "count" "I") (by decide +kernel)) (fun _ h9 => h9) rfl dX1_ageAll_13 ?_
    refine lv_icmp_ge (tgt := 52) hx hb dX1_ageAll_16 (by decide) (fun c16 => absurd c16 (nI_ge hi (by omega))) (fun c16 => ?_)
    refine lv_aload_n hx hb dX1_ageAll_19 rfl (lv_at hl 3 rfl) ?_
    refine va_get (D := D) (ci := 1) (v := .ref la) (C := RX1) (T := TX1) (N := 5) hx hb hts (by decide +kernel) hown hK hP (0) rfl rfl 0 (by decide) (hts (.fieldLink RX1 11 "VinegarLoft$Row" "line" "[LVinegarLoft$Barrel;") (by decide +kernel)) (fun _ h9 => h9) rfl dX1_ageAll_20 ?_
    refine lv_iload hx hb dX1_ageAll_23 (lv_at hl 0 rfl) ?_
    refine kx_ald hx hb hK hP (1) 0 rfl rfl (j := i) rfl (by omega) dX1_ageAll_25 ?_
    refine kr_i (W.runV (As := []) (rest := []) ⟨hx, hb, hml, hown, hts⟩ (metX0_isEmpty l D (bs i) (wd i) (zs i) ((agH wd (drv wm) h i) i) ((agH wd (drv wm) h i) (8 + i)) ((agH wd (drv wm) h i) (16 + i)) ((agH wd (drv wm) h i) (24 + i)) (hok i hi).1) (cwV 0 hts gX1_ageAll_X0_isEmpty rfl rfl rfl (by decide +kernel) ⟨Nat.le_of_ble_eq_true rfl, Nat.le_of_ble_eq_true rfl⟩) (prV 0 0 RX0 TX0 6 rfl rfl (vj_oP (rowW_b (show i < 8 by omega)) hP) (hK.sub [] rfl)) rfl rfl hl.1 rfl (lv_room (Nat.le_of_ble_eq_true rfl)) dX1_ageAll_26 ⟨Nat.le_of_ble_eq_true rfl, Nat.le_of_ble_eq_true rfl⟩) ?_
    refine lv_if_ne (tgt := 46) hx hb dX1_ageAll_29 (by decide) (fun c29 => ?_) (fun c29 => ?_)
    · refine lv_iinc (v := nI (i + 1)) (lv' := [(5, .int (nI (i + 1))), (3, .double (agS wd (drv wm) h i)), (1, .double (drv wm)), (0, .ref r)]) hx hb dX1_ageAll_46 hl (k := 0) rfl (nI_1 i) (by decide) rfl (fun ls hl => ?_)
      refine lv_goto (tgt := 10) hx hb dX1_ageAll_49 (by decide) ?_
      have g : FP.dcmp (agH wd (drv wm) h i i) 0 ≠ some .gt := fun h9 => c29 (emp0.mpr h9)
      have eH : agH wd (drv wm) h (i + 1) = agH wd (drv wm) h i := if_neg g
      have eS : agS wd (drv wm) h (i + 1) = agS wd (drv wm) h i := if_neg g
      have hP : va_P D vwCl (rowW r la bs cA (nI n) wm df q wd zs (agH wd (drv wm) h (i + 1))) H := by rw [eH]; exact hP
      have hD : va_D A (rowW r la bs cA (nI n) wm df q wd zs (agH wd (drv wm) h (i + 1))) := by rw [eH]; exact hD
      exact ih H locs ls ⟨hP, hD, hS, lv_sub hl [0, 1, 2, 3] (by rw [eS]; rfl)⟩
    · refine lv_dload_n hx hb dX1_ageAll_32 rfl (lv_at hl 1 rfl) ?_
      refine lv_aload_n hx hb dX1_ageAll_33 rfl (lv_at hl 3 rfl) ?_
      refine va_get (D := D) (ci := 1) (v := .ref la) (C := RX1) (T := TX1) (N := 5) hx hb hts (by decide +kernel) hown hK hP (0) rfl rfl 0 (by decide) (hts (.fieldLink RX1 11 "VinegarLoft$Row" "line" "[LVinegarLoft$Barrel;") (by decide +kernel)) (fun _ h9 => h9) rfl dX1_ageAll_34 ?_
      refine lv_iload hx hb dX1_ageAll_37 (lv_at hl 0 rfl) ?_
      refine kx_ald hx hb hK hP (1) 0 rfl rfl (j := i) rfl (by omega) dX1_ageAll_39 ?_
      refine lv_dload_n hx hb dX1_ageAll_40 rfl (lv_at hl 2 rfl) ?_
      have g := emp0.mp c29
      obtain ⟨ok1, ok2⟩ := (hok i hi).2 g
      refine ko_d (va_runV (As := [.double (drv wm)]) (rest := [.double (agS wd (drv wm) h i)]) ⟨hx, hb, hml, hown, hts⟩ (metX0_spendYear l D H.size (bs i) (wd i) (zs i) ((agH wd (drv wm) h i) i) ((agH wd (drv wm) h i) (8 + i)) ((agH wd (drv wm) h i) (16 + i)) ((agH wd (drv wm) h i) (24 + i)) (drv wm) ok1) (cwV 1 hts gX1_ageAll_X0_spendYear rfl rfl rfl (by decide +kernel) ⟨Nat.le_of_ble_eq_true rfl, Nat.le_of_ble_eq_true rfl⟩) (pmV 0 0 RX0 TX0 6 rfl rfl (vj_oP (rowW_b (show i < 8 by omega)) hP) (hK.sub [] rfl) (vj_oD (rowW_b (show i < 8 by omega)) hD)) rfl rfl hl.1 rfl (lv_room (Nat.le_of_ble_eq_true rfl)) dX1_ageAll_41 ⟨Nat.le_of_ble_eq_true rfl, Nat.le_of_ble_eq_true rfl⟩) (rowW_b (show i < 8 by omega)) hP hD hS hA (fun H locs hP hD hS => ?_)
      have eH : agH wd (drv wm) h (i + 1) = _ := if_pos g
      have hP : va_P D vwCl (rowW r la bs cA (nI n) wm df q wd zs (agH wd (drv wm) h (i + 1))) H := by rw [eH, ← rowW_sh (show i < 8 by omega)]; exact hP
      have hD : va_D A (rowW r la bs cA (nI n) wm df q wd zs (agH wd (drv wm) h (i + 1))) := by rw [eH, ← rowW_sh (show i < 8 by omega)]; exact hD
      refine lv_dadd hx hb dX1_ageAll_44 ok2 ?_
      refine kd_eq (show FP.dadd (agS wd (drv wm) h i) (losv (wd i) (agH wd (drv wm) h i i) (drv wm)) = agS wd (drv wm) h (i + 1) from (if_pos g).symm) ?_
      refine lv_dstore_n (lv' := [(3, .double (agS wd (drv wm) h (i + 1))), (5, .int (nI i)), (1, .double (drv wm)), (0, .ref r)]) hx hb dX1_ageAll_45 rfl hl (by decide) rfl (fun ls hl => ?_)
      refine lv_iinc (v := nI (i + 1)) (lv' := [(5, .int (nI (i + 1))), (3, .double (agS wd (drv wm) h (i + 1))), (1, .double (drv wm)), (0, .ref r)]) hx hb dX1_ageAll_46 hl (k := 1) rfl (nI_1 i) (by decide) rfl (fun ls hl => ?_)
      refine lv_goto (tgt := 10) hx hb dX1_ageAll_49 (by decide) ?_
      exact ih H locs ls ⟨hP, hD, hS, lv_sub hl [0, 1, 2, 3] (rfl)⟩
  · obtain ⟨hP, hD, hS, hl⟩ := hI
    refine lv_iload hx hb dX1_ageAll_10 (lv_at hl 0 rfl) ?_
    refine lv_aload_n hx hb dX1_ageAll_12 rfl (lv_at hl 3 rfl) ?_
    refine va_get (D := D) (ci := 1) (v := .int (nI n)) (C := RX1) (T := TX1) (N := 5) hx hb hts (by decide +kernel) hown hK hP (0) rfl rfl 1 (by decide) (hts (.fieldLink RX1 18 "VinegarLoft$Row" "count" "I") (by decide +kernel)) (fun _ h9 => h9) rfl dX1_ageAll_13 ?_
    refine lv_icmp_ge (tgt := 52) hx hb dX1_ageAll_16 (by decide) (fun c16 => ?_) (fun c16 => absurd (nI_le (Nat.le_refl n) (by omega)) c16)
    refine lv_aload_n hx hb dX1_ageAll_52 rfl (lv_at hl 3 rfl) ?_
    refine lv_aload_n hx hb dX1_ageAll_53 rfl (lv_at hl 3 rfl) ?_
    refine kr_i (W.runV (As := []) (rest := [.ref r]) ⟨hx, hb, hml, hown, hts⟩ (metX1_eldest l D r la bs cA n hn wm df q wd zs (agH wd (drv wm) h n) hN) (cwV 0 hts gX1_ageAll_X1_eldest rfl rfl rfl (by decide +kernel) ⟨Nat.le_of_ble_eq_true rfl, Nat.le_of_ble_eq_true rfl⟩) (prV 1 0 RX1 TX1 5 rfl rfl hP hK) rfl rfl hl.1 rfl (lv_room (Nat.le_of_ble_eq_true rfl)) dX1_ageAll_54 ⟨Nat.le_of_ble_eq_true rfl, Nat.le_of_ble_eq_true rfl⟩) ?_
    rcases ho : elO (agH wd (drv wm) h n) n with _ | b
    · have ho9 := ho
      refine va_put (D := D) (ci := 1) (v := .int (-1)) (ty := .int) (C := RX1) (T := TX1) (N := 5) hx hb hts (by decide +kernel) tyX1 tyX1_ok nmX1 hown hK hP hD hS (0) rfl rfl 3 (by decide) (hts (.fieldLink RX1 25 "VinegarLoft$Row" "drawnFrom" "I") (by decide +kernel)) (fun _ h9 => h9) rfl (by decide +kernel) rfl rfl (Nat.le_of_ble_eq_true rfl) dX1_ageAll_57 (fun H locs hP hD hS => ?_)
      have hP : va_P D vwCl (rowW r la bs cA (nI n) wm (-1) q wd zs (agH wd (drv wm) h n)) H := hP
      have hD : va_D A (rowW r la bs cA (nI n) wm (-1) q wd zs (agH wd (drv wm) h n)) := hD
      refine lv_aload_n hx hb dX1_ageAll_60 rfl (lv_at hl 3 rfl) ?_
      refine lv_aload_n hx hb dX1_ageAll_61 rfl (lv_at hl 3 rfl) ?_
      refine va_get (D := D) (ci := 1) (v := .int (-1)) (C := RX1) (T := TX1) (N := 5) hx hb hts (by decide +kernel) hown hK hP (0) rfl rfl 3 (by decide) (hts (.fieldLink RX1 25 "VinegarLoft$Row" "drawnFrom" "I") (by decide +kernel)) (fun _ h9 => h9) rfl dX1_ageAll_62 ?_
      refine lv_iconst (v := (-1)) hx hb dX1_ageAll_65 (by decide) ?_
      refine lv_icmp_ne (tgt := 73) hx hb dX1_ageAll_66 (by decide) (fun c66 => absurd c66 (fun h9 => h9 rfl)) (fun c66 => ?_)
      refine kd_0 hx hb dX1_ageAll_69 ?_
      refine lv_goto (tgt := 89) hx hb dX1_ageAll_70 (by decide) ?_
      refine va_put (D := D) (ci := 1) (v := .double 0) (ty := .double) (C := RX1) (T := TX1) (N := 5) hx hb hts (by decide +kernel) tyX1 tyX1_ok nmX1 hown hK hP hD hS (0) rfl rfl 4 (by decide) (hts (.fieldLink RX1 28 "VinegarLoft$Row" "mayBeDrawn" "D") (by decide +kernel)) (fun _ h9 => h9) rfl (by decide +kernel) rfl rfl (Nat.le_of_ble_eq_true rfl) dX1_ageAll_89 (fun H locs hP hD hS => ?_)
      have hP : va_P D vwCl (rowW r la bs cA (nI n) wm (-1) 0 wd zs (agH wd (drv wm) h n)) H := hP
      have hD : va_D A (rowW r la bs cA (nI n) wm (-1) 0 wd zs (agH wd (drv wm) h n)) := hD
      refine lv_dload_n hx hb dX1_ageAll_92 rfl (lv_at hl 1 rfl) ?_
      exact W.dret hx hb hr (fun t ht hW => ⟨⟨_, (), rfl, rfl, by rw [ht]; exact hP, va_K.moved hW.alike hK, hD⟩, hS.F ht⟩) hS.2.2 dX1_ageAll_93
    · have hbn : b < n := elO_lt (agH wd (drv wm) h n) n b ho
      refine va_put (D := D) (ci := 1) (v := .int (nI b)) (ty := .int) (C := RX1) (T := TX1) (N := 5) hx hb hts (by decide +kernel) tyX1 tyX1_ok nmX1 hown hK hP hD hS (0) rfl rfl 3 (by decide) (hts (.fieldLink RX1 25 "VinegarLoft$Row" "drawnFrom" "I") (by decide +kernel)) (fun _ h9 => h9) rfl (by decide +kernel) rfl rfl (Nat.le_of_ble_eq_true rfl) dX1_ageAll_57 (fun H locs hP hD hS => ?_)
      have hP : va_P D vwCl (rowW r la bs cA (nI n) wm (nI b) q wd zs (agH wd (drv wm) h n)) H := hP
      have hD : va_D A (rowW r la bs cA (nI n) wm (nI b) q wd zs (agH wd (drv wm) h n)) := hD
      refine lv_aload_n hx hb dX1_ageAll_60 rfl (lv_at hl 3 rfl) ?_
      refine lv_aload_n hx hb dX1_ageAll_61 rfl (lv_at hl 3 rfl) ?_
      refine va_get (D := D) (ci := 1) (v := .int (nI b)) (C := RX1) (T := TX1) (N := 5) hx hb hts (by decide +kernel) hown hK hP (0) rfl rfl 3 (by decide) (hts (.fieldLink RX1 25 "VinegarLoft$Row" "drawnFrom" "I") (by decide +kernel)) (fun _ h9 => h9) rfl dX1_ageAll_62 ?_
      refine lv_iconst (v := (-1)) hx hb dX1_ageAll_65 (by decide) ?_
      refine lv_icmp_ne (tgt := 73) hx hb dX1_ageAll_66 (by decide) (fun c66 => ?_) (fun c66 => absurd c66 (nI_m1 (by omega)))
      refine lv_ldc2d hx hb hown (hts (.constantDouble RX1 94 4598175219545276416) (by decide +kernel)) dX1_ageAll_73 ?_
      refine lv_aload_n hx hb dX1_ageAll_76 rfl (lv_at hl 3 rfl) ?_
      refine va_get (D := D) (ci := 1) (v := .ref la) (C := RX1) (T := TX1) (N := 5) hx hb hts (by decide +kernel) hown hK hP (0) rfl rfl 0 (by decide) (hts (.fieldLink RX1 11 "VinegarLoft$Row" "line" "[LVinegarLoft$Barrel;") (by decide +kernel)) (fun _ h9 => h9) rfl dX1_ageAll_77 ?_
      refine lv_aload_n hx hb dX1_ageAll_80 rfl (lv_at hl 3 rfl) ?_
      refine va_get (D := D) (ci := 1) (v := .int (nI b)) (C := RX1) (T := TX1) (N := 5) hx hb hts (by decide +kernel) hown hK hP (0) rfl rfl 3 (by decide) (hts (.fieldLink RX1 25 "VinegarLoft$Row" "drawnFrom" "I") (by decide +kernel)) (fun _ h9 => h9) rfl dX1_ageAll_81 ?_
      refine kx_ald hx hb hK hP (1) 0 rfl rfl (j := b) rfl (by omega) dX1_ageAll_84 ?_
      refine va_get (D := D) (ci := 0) (v := .double ((agH wd (drv wm) h n) b)) (C := RX0) (T := TX0) (N := 6) hx hb hts (by decide +kernel) hown hK hP (2 + b) (rowW_b (show b < 8 by omega)) rfl 2 (by decide) (hts (.fieldLink RX1 49 "VinegarLoft$Barrel" "litres" "D") (by decide +kernel)) (fun _ h9 => h9) rfl dX1_ageAll_85 ?_
      refine lv_dmul hx hb dX1_ageAll_88 (hq b hbn) ?_
      refine va_put (D := D) (ci := 1) (v := .double (FP.dmul 4598175219545276416 ((agH wd (drv wm) h n) b))) (ty := .double) (C := RX1) (T := TX1) (N := 5) hx hb hts (by decide +kernel) tyX1 tyX1_ok nmX1 hown hK hP hD hS (0) rfl rfl 4 (by decide) (hts (.fieldLink RX1 28 "VinegarLoft$Row" "mayBeDrawn" "D") (by decide +kernel)) (fun _ h9 => h9) rfl (by decide +kernel) rfl rfl (Nat.le_of_ble_eq_true rfl) dX1_ageAll_89 (fun H locs hP hD hS => ?_)
      have hP : va_P D vwCl (rowW r la bs cA (nI n) wm (nI b) (FP.dmul 4598175219545276416 ((agH wd (drv wm) h n) b)) wd zs (agH wd (drv wm) h n)) H := hP
      have hD : va_D A (rowW r la bs cA (nI n) wm (nI b) (FP.dmul 4598175219545276416 ((agH wd (drv wm) h n) b)) wd zs (agH wd (drv wm) h n)) := hD
      refine lv_dload_n hx hb dX1_ageAll_92 rfl (lv_at hl 1 rfl) ?_
      exact W.dret hx hb hr (fun t ht hW => ⟨⟨_, (), rfl, rfl, by rw [ht]; exact hP, va_K.moved hW.alike hK, hD⟩, hS.F ht⟩) hS.2.2 dX1_ageAll_93
set_option maxHeartbeats 4000000 in
set_option maxRecDepth 100000 in
/-- copyFrom(other) -/
theorem metX1_copyFrom (l : Launch) (D : va_G) (sz : Nat) (r la : Nat) (bs : Nat → Nat) (cA : ClassId) (n : Nat) (hn : n ≤ 8) (wm df : Int32) (q : UInt64) (wd zs : Nat → Int32) (h : Nat → UInt64) (r2 la2 : Nat) (bs2 : Nat → Nat) (n2 : Nat) (hn2 : n2 ≤ 8) (wm2 df2 : Int32) (q2 : UInt64) (wd2 zs2 : Nat → Int32) (h2 : Nat → UInt64)  : Met l yX1_copyFrom wsX1_copyFrom { frames := 1, cells := 0, slots := 0, locals := 21 } (Pm D [(cA, .object "VinegarLoft$Barrel")] [.ref r, .ref r2] (rowW r la bs cA (nI n) wm df q wd zs h ++ rowW r2 la2 bs2 cA (nI n2) wm2 df2 q2 wd2 zs2 h2) sz) (va_Qv (fun (_ : Unit) => True) (Bm D [(cA, .object "VinegarLoft$Barrel")] (va_A (rowW r la bs cA (nI n) wm df q wd zs h ++ rowW r2 la2 bs2 cA (nI n2) wm2 df2 q2 wd2 zs2 h2) sz) (rowW r la bs cA (nI n2) wm2 df2 q2 (cpI n2 wd wd2) (cpI n2 zs zs2) (cpH n2 h h2) ++ rowW r2 la2 bs2 cA (nI n2) wm2 df2 q2 wd2 zs2 h2)) (va_A (rowW r la bs cA (nI n) wm df q wd zs h ++ rowW r2 la2 bs2 cA (nI n2) wm2 df2 q2 wd2 zs2 h2) sz)) 0 0 (va_A (rowW r la bs cA (nI n) wm df q wd zs h ++ rowW r2 la2 bs2 cA (nI n2) wm2 df2 q2 wd2 zs2 h2) sz) := by
  refine Met.ofW (cc := cX1_copyFrom) (maxL := 3) (ret := none) (by decide) rfl ?_
  intro p e s m args below meth c s₁ B hml hv
  obtain ⟨rfl, hsz, hP, hK, hD0⟩ := hv
  have hx := B.exec
  have hb := B.bytes
  have hr := B.returns
  have hts := atoms_spec (ws := wsX1_copyFrom) B.pre
  have hown : s.vm.findClass RX1 = some m.cls := findClass_of_methodNamed B.named
  have hlocks := B.notSynchronized
  subst hsz
  have hD := hD0.self (sz := s.heap.size)
  generalize hAe : va_A (rowW r la bs cA (nI n) wm df q wd zs h ++ rowW r2 la2 bs2 cA (nI n2) wm2 df2 q2 wd2 zs2 h2) s.heap.size = A at hD ⊢
  have hA : ∀ q : Nat, s.heap.size ≤ q → A q := fun q h => by rw [← hAe]; exact Or.inr h
  refine kW_H (fun H hH => ?_)
  have hP : va_P D vwCl (rowW r la bs cA (nI n) wm df q wd zs h ++ rowW r2 la2 bs2 cA (nI n2) wm2 df2 q2 wd2 zs2 h2) H := by rw [hH]; exact hP
  have hS : va_S A s.heap H [] := by rw [hH]; exact va_S.rf
  have hl := lv_entry ([.ref r, .ref r2]) (n := 3) (Nat.le_of_ble_eq_true rfl)
  rw [lg_entry_eq]
  generalize (lg_sl ([.ref r, .ref r2]) ++ List.replicate (3 - (lg_sl ([.ref r, .ref r2])).length) Slot.unset).toArray = ls at hl ⊢
  have hl : lv_has ls 3 [(0, .ref r), (1, .ref r2)] := hl
  refine lv_aload_n hx hb dX1_copyFrom_0 rfl (lv_at hl 0 rfl) ?_
  refine lv_aload_n hx hb dX1_copyFrom_1 rfl (lv_at hl 1 rfl) ?_
  refine va_get (D := D) (ci := 1) (v := .int (nI n2)) (C := RX1) (T := TX1) (N := 5) hx hb hts (by decide +kernel) hown hK hP (10) rfl rfl 1 (by decide) (hts (.fieldLink RX1 18 "VinegarLoft$Row" "count" "I") (by decide +kernel)) (fun _ h9 => h9) rfl dX1_copyFrom_2 ?_
  refine va_put (D := D) (ci := 1) (v := .int (nI n2)) (ty := .int) (C := RX1) (T := TX1) (N := 5) hx hb hts (by decide +kernel) tyX1 tyX1_ok nmX1 hown hK hP hD hS (0) rfl rfl 1 (by decide) (hts (.fieldLink RX1 18 "VinegarLoft$Row" "count" "I") (by decide +kernel)) (fun _ h9 => h9) rfl (by decide +kernel) rfl rfl (Nat.le_of_ble_eq_true rfl) dX1_copyFrom_5 (fun H locs hP hD hS => ?_)
  have hP : va_P D vwCl (rowW r la bs cA (nI n2) wm df q wd zs h ++ rowW r2 la2 bs2 cA (nI n2) wm2 df2 q2 wd2 zs2 h2) H := hP
  have hD : va_D A (rowW r la bs cA (nI n2) wm df q wd zs h ++ rowW r2 la2 bs2 cA (nI n2) wm2 df2 q2 wd2 zs2 h2) := hD
  refine lv_aload_n hx hb dX1_copyFrom_8 rfl (lv_at hl 0 rfl) ?_
  refine lv_aload_n hx hb dX1_copyFrom_9 rfl (lv_at hl 1 rfl) ?_
  refine va_get (D := D) (ci := 1) (v := .int wm2) (C := RX1) (T := TX1) (N := 5) hx hb hts (by decide +kernel) hown hK hP (10) rfl rfl 2 (by decide) (hts (.fieldLink RX1 22 "VinegarLoft$Row" "warmth" "I") (by decide +kernel)) (fun _ h9 => h9) rfl dX1_copyFrom_10 ?_
  refine va_put (D := D) (ci := 1) (v := .int wm2) (ty := .int) (C := RX1) (T := TX1) (N := 5) hx hb hts (by decide +kernel) tyX1 tyX1_ok nmX1 hown hK hP hD hS (0) rfl rfl 2 (by decide) (hts (.fieldLink RX1 22 "VinegarLoft$Row" "warmth" "I") (by decide +kernel)) (fun _ h9 => h9) rfl (by decide +kernel) rfl rfl (Nat.le_of_ble_eq_true rfl) dX1_copyFrom_13 (fun H locs hP hD hS => ?_)
  have hP : va_P D vwCl (rowW r la bs cA (nI n2) wm2 df q wd zs h ++ rowW r2 la2 bs2 cA (nI n2) wm2 df2 q2 wd2 zs2 h2) H := hP
  have hD : va_D A (rowW r la bs cA (nI n2) wm2 df q wd zs h ++ rowW r2 la2 bs2 cA (nI n2) wm2 df2 q2 wd2 zs2 h2) := hD
  refine lv_aload_n hx hb dX1_copyFrom_16 rfl (lv_at hl 0 rfl) ?_
  refine lv_aload_n hx hb dX1_copyFrom_17 rfl (lv_at hl 1 rfl) ?_
  refine va_get (D := D) (ci := 1) (v := .int df2) (C := RX1) (T := TX1) (N := 5) hx hb hts (by decide +kernel) hown hK hP (10) rfl rfl 3 (by decide) (hts (.fieldLink RX1 25 "VinegarLoft$Row" "drawnFrom" "I") (by decide +kernel)) (fun _ h9 => h9) rfl dX1_copyFrom_18 ?_
  refine va_put (D := D) (ci := 1) (v := .int df2) (ty := .int) (C := RX1) (T := TX1) (N := 5) hx hb hts (by decide +kernel) tyX1 tyX1_ok nmX1 hown hK hP hD hS (0) rfl rfl 3 (by decide) (hts (.fieldLink RX1 25 "VinegarLoft$Row" "drawnFrom" "I") (by decide +kernel)) (fun _ h9 => h9) rfl (by decide +kernel) rfl rfl (Nat.le_of_ble_eq_true rfl) dX1_copyFrom_21 (fun H locs hP hD hS => ?_)
  have hP : va_P D vwCl (rowW r la bs cA (nI n2) wm2 df2 q wd zs h ++ rowW r2 la2 bs2 cA (nI n2) wm2 df2 q2 wd2 zs2 h2) H := hP
  have hD : va_D A (rowW r la bs cA (nI n2) wm2 df2 q wd zs h ++ rowW r2 la2 bs2 cA (nI n2) wm2 df2 q2 wd2 zs2 h2) := hD
  refine lv_aload_n hx hb dX1_copyFrom_24 rfl (lv_at hl 0 rfl) ?_
  refine lv_aload_n hx hb dX1_copyFrom_25 rfl (lv_at hl 1 rfl) ?_
  refine va_get (D := D) (ci := 1) (v := .double q2) (C := RX1) (T := TX1) (N := 5) hx hb hts (by decide +kernel) hown hK hP (10) rfl rfl 4 (by decide) (hts (.fieldLink RX1 28 "VinegarLoft$Row" "mayBeDrawn" "D") (by decide +kernel)) (fun _ h9 => h9) rfl dX1_copyFrom_26 ?_
  refine va_put (D := D) (ci := 1) (v := .double q2) (ty := .double) (C := RX1) (T := TX1) (N := 5) hx hb hts (by decide +kernel) tyX1 tyX1_ok nmX1 hown hK hP hD hS (0) rfl rfl 4 (by decide) (hts (.fieldLink RX1 28 "VinegarLoft$Row" "mayBeDrawn" "D") (by decide +kernel)) (fun _ h9 => h9) rfl (by decide +kernel) rfl rfl (Nat.le_of_ble_eq_true rfl) dX1_copyFrom_29 (fun H locs hP hD hS => ?_)
  have hP : va_P D vwCl (rowW r la bs cA (nI n2) wm2 df2 q2 wd zs h ++ rowW r2 la2 bs2 cA (nI n2) wm2 df2 q2 wd2 zs2 h2) H := hP
  have hD : va_D A (rowW r la bs cA (nI n2) wm2 df2 q2 wd zs h ++ rowW r2 la2 bs2 cA (nI n2) wm2 df2 q2 wd2 zs2 h2) := hD
  refine lv_iconst (v := 0) hx hb dX1_copyFrom_32 (by decide) ?_
  refine lv_istore_n (lv' := [(2, .int 0), (0, .ref r), (1, .ref r2)]) hx hb dX1_copyFrom_33 rfl hl (by decide) rfl (fun ls hl => ?_)
  have hP : va_P D vwCl (rowW r la bs cA (nI n2) wm2 df2 q2 (cpI 0 wd wd2) (cpI 0 zs zs2) (cpH 0 h h2) ++ rowW r2 la2 bs2 cA (nI n2) wm2 df2 q2 wd2 zs2 h2) H := by rw [cpI_0, cpI_0, cpH_0]; exact hP
  have hD : va_D A (rowW r la bs cA (nI n2) wm2 df2 q2 (cpI 0 wd wd2) (cpI 0 zs zs2) (cpH 0 h h2) ++ rowW r2 la2 bs2 cA (nI n2) wm2 df2 q2 wd2 zs2 h2) := by rw [cpI_0, cpI_0, cpH_0]; exact hD
  refine kW_up (n2) (fun i H locs ls => va_P D vwCl (rowW r la bs cA (nI n2) wm2 df2 q2 (cpI i wd wd2) (cpI i zs zs2) (cpH i h h2) ++ rowW r2 la2 bs2 cA (nI n2) wm2 df2 q2 wd2 zs2 h2) H ∧ va_D A (rowW r la bs cA (nI n2) wm2 df2 q2 (cpI i wd wd2) (cpI i zs zs2) (cpH i h h2) ++ rowW r2 la2 bs2 cA (nI n2) wm2 df2 q2 wd2 zs2 h2) ∧ va_S A s.heap H locs ∧ lv_has ls 3 [(2, .int (nI i)), (0, .ref r), (1, .ref r2)]) (fun i H locs ls hi hI ih => ?_) (fun H locs ls hI => ?_) ⟨hP, hD, hS, lv_sub hl [0, 1, 2] (rfl)⟩
  · obtain ⟨hP, hD, hS, hl⟩ := hI
    refine lv_iload_n hx hb dX1_copyFrom_34 rfl (lv_at hl 0 rfl) ?_
    refine lv_aload_n hx hb dX1_copyFrom_35 rfl (lv_at hl 1 rfl) ?_
    refine va_get (D := D) (ci := 1) (v := .int (nI n2)) (C := RX1) (T := TX1) (N := 5) hx hb hts (by decide +kernel) hown hK hP (0) rfl rfl 1 (by decide) (hts (.fieldLink RX1 18 "VinegarLoft$Row" "count" "I") (by decide +kernel)) (fun _ h9 => h9) rfl dX1_copyFrom_36 ?_
    refine lv_icmp_ge (tgt := 63) hx hb dX1_copyFrom_39 (by decide) (fun c39 => absurd c39 (nI_ge hi (by omega))) (fun c39 => ?_)
    refine lv_aload_n hx hb dX1_copyFrom_42 rfl (lv_at hl 1 rfl) ?_
    refine va_get (D := D) (ci := 1) (v := .ref la) (C := RX1) (T := TX1) (N := 5) hx hb hts (by decide +kernel) hown hK hP (0) rfl rfl 0 (by decide) (hts (.fieldLink RX1 11 "VinegarLoft$Row" "line" "[LVinegarLoft$Barrel;") (by decide +kernel)) (fun _ h9 => h9) rfl dX1_copyFrom_43 ?_
    refine lv_iload_n hx hb dX1_copyFrom_46 rfl (lv_at hl 0 rfl) ?_
    refine kx_ald hx hb hK hP 1 0 rfl rfl (j := i) rfl (by omega) dX1_copyFrom_47 ?_
    refine lv_aload_n hx hb dX1_copyFrom_48 rfl (lv_at hl 2 rfl) ?_
    refine va_get (D := D) (ci := 1) (v := .ref la2) (C := RX1) (T := TX1) (N := 5) hx hb hts (by decide +kernel) hown hK hP (10) rfl rfl 0 (by decide) (hts (.fieldLink RX1 11 "VinegarLoft$Row" "line" "[LVinegarLoft$Barrel;") (by decide +kernel)) (fun _ h9 => h9) rfl dX1_copyFrom_49 ?_
    refine lv_iload_n hx hb dX1_copyFrom_52 rfl (lv_at hl 0 rfl) ?_
    refine kx_ald hx hb hK hP 11 0 rfl rfl (j := i) rfl (by omega) dX1_copyFrom_53 ?_
    refine kt_v (k1 := 2 + i) (k2 := 10 + (2 + i)) (va_runV (As := [.ref (bs2 i)]) (rest := []) ⟨hx, hb, hml, hown, hts⟩ (metX0_copyFrom l D H.size (bs i) ((cpI i wd wd2) i) ((cpI i zs zs2) i) ((cpH i h h2) i) ((cpH i h h2) (8 + i)) ((cpH i h h2) (16 + i)) ((cpH i h h2) (24 + i)) (bs2 i) (wd2 i) (zs2 i) (h2 i) (h2 (8 + i)) (h2 (16 + i)) (h2 (24 + i))) (cwV 1 hts gX1_copyFrom_X0_copyFrom rfl rfl rfl (by decide +kernel) ⟨Nat.le_of_ble_eq_true rfl, Nat.le_of_ble_eq_true rfl⟩) (pmV 0 0 RX0 TX0 6 rfl rfl (vj_tP (k1 := 2 + i) (k2 := 10 + (2 + i)) (rowT_1 (show i < 8 by omega)) (rowT_2 rfl (show i < 8 by omega)) hP) (hK.sub [] rfl) (vj_tD (k1 := 2 + i) (k2 := 10 + (2 + i)) (rowT_1 (show i < 8 by omega)) (rowT_2 rfl (show i < 8 by omega)) (by omega) hD)) rfl rfl hl.1 rfl (lv_room (Nat.le_of_ble_eq_true rfl)) dX1_copyFrom_54 ⟨Nat.le_of_ble_eq_true rfl, Nat.le_of_ble_eq_true rfl⟩) (rowT_1 (show i < 8 by omega)) (rowT_2 rfl (show i < 8 by omega)) (by omega) hP hD hS hA (fun H locs hP hD hS => ?_)
    have hP : va_P D vwCl (rowW r la bs cA (nI n2) wm2 df2 q2 (cpI (i + 1) wd wd2) (cpI (i + 1) zs zs2) (cpH (i + 1) h h2) ++ rowW r2 la2 bs2 cA (nI n2) wm2 df2 q2 wd2 zs2 h2) H := by rw [← cpI_s, ← cpI_s, ← cpH_s (show i < 8 by omega), ← rowT_cp (show i < 8 by omega)]; exact hP
    have hD : va_D A (rowW r la bs cA (nI n2) wm2 df2 q2 (cpI (i + 1) wd wd2) (cpI (i + 1) zs zs2) (cpH (i + 1) h h2) ++ rowW r2 la2 bs2 cA (nI n2) wm2 df2 q2 wd2 zs2 h2) := by rw [← cpI_s, ← cpI_s, ← cpH_s (show i < 8 by omega), ← rowT_cp (show i < 8 by omega)]; exact hD
    refine lv_iinc (v := nI (i + 1)) (lv' := [(2, .int (nI (i + 1))), (0, .ref r), (1, .ref r2)]) hx hb dX1_copyFrom_57 hl (k := 0) rfl (nI_1 i) (by decide) rfl (fun ls hl => ?_)
    refine lv_goto (tgt := 34) hx hb dX1_copyFrom_60 (by decide) ?_
    exact ih H locs ls ⟨hP, hD, hS, lv_sub hl [0, 1, 2] (rfl)⟩
  · obtain ⟨hP, hD, hS, hl⟩ := hI
    refine lv_iload_n hx hb dX1_copyFrom_34 rfl (lv_at hl 0 rfl) ?_
    refine lv_aload_n hx hb dX1_copyFrom_35 rfl (lv_at hl 1 rfl) ?_
    refine va_get (D := D) (ci := 1) (v := .int (nI n2)) (C := RX1) (T := TX1) (N := 5) hx hb hts (by decide +kernel) hown hK hP (0) rfl rfl 1 (by decide) (hts (.fieldLink RX1 18 "VinegarLoft$Row" "count" "I") (by decide +kernel)) (fun _ h9 => h9) rfl dX1_copyFrom_36 ?_
    refine lv_icmp_ge (tgt := 63) hx hb dX1_copyFrom_39 (by decide) (fun c39 => ?_) (fun c39 => absurd (nI_le (Nat.le_refl n2) (by omega)) c39)
    exact W.vret hx hb hr (fun t ht hW => ⟨⟨(), rfl, trivial, by rw [ht]; exact hP, va_K.moved hW.alike hK, hD⟩, hS.F ht⟩) hS.2.2 dX1_copyFrom_63
end
section
/-! Row(): a line of eight barrels (laid by wip/whole/prog/x1c.py) -/
/-- eight addresses as a table -/
def bsf (b0 b1 b2 b3 b4 b5 b6 b7 : Nat) : Nat → Nat := fun i => match i with
  | 0 => b0
  | 1 => b1
  | 2 => b2
  | 3 => b3
  | 4 => b4
  | 5 => b5
  | 6 => b6
  | _ => b7
/-- an array of references, by its eight places -/
theorem va_line {D : va_G} {cl : List vw_C} {la : Nat} {cA : ClassId} {f g : Nat → Option Nat} {H : Heap} (h : va_at D cl (la, .inl (cA, (8, .inr (.inr (.inr (.inr f)))))) H) (hfg : ∀ j, j < 8 → f j = g j) : va_at D cl (la, .inl (cA, (8, .inr (.inr (.inr (.inr g)))))) H := by
  have h1 : H[la]? = some (arrV cA 8 (fun j => va_rf (f j))) := h
  show H[la]? = some (arrV cA 8 (fun j => va_rf (g j)))
  rw [h1]
  unfold arrV
  congr 2
  refine congrArg Array.ofFn (funext fun j => ?_)
  show va_rf (f j.val) = va_rf (g j.val)
  rw [hfg j.val j.isLt]
/-- the start of a constructor: the class of the line's array is known -/
def Pi (D : va_G) (av : List Value) (ws : va_W) (sz : Nat) : Array Value → State → Prop := va_Pc av (fun U => U.heap.size = sz ∧ va_P D vwCl ws U.heap ∧ va_K D vwCl [] U ∧ va_D (fun _ => True) ws ∧ va_AO "VinegarLoft$Barrel" U ∧ va_Nw (.methodLinkNest RX1 17 yX0_init "VinegarLoft") U)
theorem Pi_blind {D : va_G} {av : List Value} {ws : va_W} {sz : Nat} : FrameBlind (Pi D av ws sz) := fun a U g mk q => by
  obtain ⟨q0, q1, qP, qK, qD, qO, qN⟩ := q
  exact ⟨q0, q1, qP, va_K.moved (u := U) (U := U.calling g mk a) (Vm.Alike.refl U.vm) qK, qD, va_AO.moved (u := U) (U := U.calling g mk a) (Vm.Alike.refl U.vm) qO, va_Nw.same rfl (u := U) (U := U.calling g mk a) rfl qN⟩
theorem piS {s : State} {H : Heap} {D : va_G} {ws : va_W} {A : Nat → Prop} {As : List Value} (hP : va_P D vwCl ws H) (hK : va_K D vwCl [] s) (hD : va_D A ws) (hO : va_AO "VinegarLoft$Barrel" s) (hN : va_Nw (.methodLinkNest RX1 17 yX0_init "VinegarLoft") s) : PreS s H (Pi D As ws H.size) As :=
  ⟨Pi_blind, fun U hU hW => ⟨rfl, by rw [hU], by rw [hU]; exact hP, va_K.moved hW.alike hK, hD.weaken (fun _ _ _ _ => trivial), va_AO.moved hW.alike hO, va_Nw.warmM hW hN⟩⟩
/-- a row as it is made -/
abbrev row0 (r la : Nat) (bs : Nat → Nat) (cA : ClassId) : va_W := rowW r la bs cA (nI 0) 18 (-1) 0 (fun _ => 0) (fun _ => 0) (fun _ => 0)
set_option maxHeartbeats 4000000 in
set_option maxRecDepth 100000 in
/-- Row(): an empty row, eight barrels in its line -/
theorem metX1_init (l : Launch) (D : va_G) (sz : Nat) (r : Nat) : Met l yX1_init wsX1_init { frames := 2, cells := 9, slots := 56, locals := 32 } (Pi D [.ref r] [(r, .inr (1, [.null, .int 0, .int 0, .int 0, .double 0]))] sz) (va_Qv (fun (_ : Nat × (Nat → Nat) × ClassId) => True) (fun u t => va_P D vwCl (row0 r u.1 u.2.1 u.2.2) t.heap ∧ va_K D vwCl [(u.2.2, .object "VinegarLoft$Barrel")] t ∧ va_D (va_A [(r, .inr (1, [.null, .int 0, .int 0, .int 0, .double 0]))] sz) (row0 r u.1 u.2.1 u.2.2)) (va_A [(r, .inr (1, [.null, .int 0, .int 0, .int 0, .double 0]))] sz)) 9 56 (va_A [(r, .inr (1, [.null, .int 0, .int 0, .int 0, .double 0]))] sz) := by
  refine Met.ofW (cc := cX1_init) (maxL := 2) (ret := none) (by decide) rfl ?_
  intro p e s m args below meth c s₁ B hml hv
  obtain ⟨rfl, hsz, hP, hK, hD0, hO, hNw⟩ := hv
  have hx := B.exec
  have hb := B.bytes
  have hr := B.returns
  have hts := atoms_spec (ws := wsX1_init) B.pre
  have hown : s.vm.findClass RX1 = some m.cls := findClass_of_methodNamed B.named
  have hlocks := B.notSynchronized
  have hin : meth.name = "<init>" := (name_of_methodNamed B.named B.method).1
  subst hsz
  have hD := hD0.self (sz := s.heap.size)
  generalize hAe : va_A [(r, .inr (1, [.null, .int 0, .int 0, .int 0, .double 0]))] s.heap.size = A at hD ⊢
  have hA : ∀ q : Nat, s.heap.size ≤ q → A q := fun q h => by rw [← hAe]; exact Or.inr h
  refine kW_H (fun H hH => ?_)
  have hP : va_P D vwCl [(r, .inr (1, [.null, .int 0, .int 0, .int 0, .double 0]))] H := by rw [hH]; exact hP
  have hS : va_S A s.heap H [] := by rw [hH]; exact va_S.rf
  have hl := lv_entry ([.ref r]) (n := 2) (Nat.le_of_ble_eq_true rfl)
  rw [lg_entry_eq]
  generalize (lg_sl ([.ref r]) ++ List.replicate (2 - (lg_sl ([.ref r])).length) Slot.unset).toArray = ls at hl ⊢
  have hl : lv_has ls 2 [(0, .ref r)] := hl
  refine lv_aload_n hx hb dX1_init_0 rfl (lv_at hl 0 rfl) ?_
  refine W.objInit hx hb hown (hts (.methodLink RX1 3 objectInit) (by decide +kernel)) (hts (.instanceMethod objectInit) (by decide +kernel)) (hts (.code objectInit ⟨#[0xb1]⟩ 1 none) (by decide +kernel)) rfl (by rw [hml]; exact hl.1) rfl dX1_init_1 (Nat.le_of_ble_eq_true rfl) (Nat.le_of_ble_eq_true rfl) ?_
  refine W.eq (g2 := F0 m 4 ls []) rfl ?_
  refine lv_aload_n hx hb dX1_init_4 rfl (lv_at hl 0 rfl) ?_
  refine lv_bipush (v := 8) hx hb dX1_init_5 (by decide) ?_
  refine va_newq hx hb hown (hts (.classLink RX1 9 RX0) (by decide +kernel)) hO hK hP hD hS hA (n := 8) (N' := 8) (by decide) (by decide) (by decide) (Nat.le_of_ble_eq_true rfl) (Nat.le_of_ble_eq_true rfl) dX1_init_7 (fun la cA H hK hP hD hS => ?_)
  have hK : va_K D vwCl [(cA, .object "VinegarLoft$Barrel")] s := hK
  have hP : va_P D vwCl [(r, .inr (1, [.null, .int 0, .int 0, .int 0, .double 0])), (la, .inl (cA, (8, .inr (.inr (.inr (.inr (fun _ => none)))))))] H := hP
  have hD : va_D A [(r, .inr (1, [.null, .int 0, .int 0, .int 0, .double 0])), (la, .inl (cA, (8, .inr (.inr (.inr (.inr (fun _ => none)))))))] := hD
  refine va_putF (D := D) (ci := 1) (v := .ref la) (ty := .array (.object "VinegarLoft$Barrel")) (C := RX1) (T := TX1) (N := 5) hx hb hts (by decide +kernel) tyX1 tyX1_ok nmX1 hown hK hP hD hS (0) rfl rfl 0 (by decide) (hts (.fieldLink RX1 11 "VinegarLoft$Row" "line" "[LVinegarLoft$Barrel;") (by decide +kernel)) (fun _ h9 => h9) rfl hin rfl (by decide +kernel) rfl rfl (Nat.le_of_ble_eq_true rfl) dX1_init_10 (fun H locs hP hD hS => ?_)
  have hP : va_P D vwCl [(r, .inr (1, [.ref la, .int 0, .int 0, .int 0, .double 0])), (la, .inl (cA, (8, .inr (.inr (.inr (.inr (fun _ => none)))))))] H := hP
  have hD : va_D A [(r, .inr (1, [.ref la, .int 0, .int 0, .int 0, .double 0])), (la, .inl (cA, (8, .inr (.inr (.inr (.inr (fun _ => none)))))))] := hD
  refine lv_iconst (v := 0) hx hb dX1_init_13 (by decide) ?_
  refine lv_istore_n (lv' := [(1, .int 0), (0, .ref r)]) hx hb dX1_init_14 rfl hl (by decide) rfl (fun ls hl => ?_)
  refine lv_iload_n hx hb dX1_init_15 rfl (lv_at hl 0 rfl) ?_
  refine lv_aload_n hx hb dX1_init_16 rfl (lv_at hl 1 rfl) ?_
  refine va_get (D := D) (ci := 1) (v := .ref la) (C := RX1) (T := TX1) (N := 5) hx hb hts (by decide +kernel) hown hK hP (0) rfl rfl 0 (by decide) (hts (.fieldLink RX1 11 "VinegarLoft$Row" "line" "[LVinegarLoft$Barrel;") (by decide +kernel)) (fun _ h9 => h9) rfl dX1_init_17 ?_
  refine va_alen hx hb hK hP 1 0 (v := 8) rfl rfl rfl dX1_init_20 ?_
  refine lv_icmp_ge (tgt := 43) hx hb dX1_init_21 (by decide) (fun c21 => absurd c21 (by decide)) (fun c21 => ?_)
  refine lv_aload_n hx hb dX1_init_24 rfl (lv_at hl 1 rfl) ?_
  refine va_get (D := D) (ci := 1) (v := .ref la) (C := RX1) (T := TX1) (N := 5) hx hb hts (by decide +kernel) hown hK hP (0) rfl rfl 0 (by decide) (hts (.fieldLink RX1 11 "VinegarLoft$Row" "line" "[LVinegarLoft$Barrel;") (by decide +kernel)) (fun _ h9 => h9) rfl dX1_init_25 ?_
  refine lv_iload_n hx hb dX1_init_28 rfl (lv_at hl 0 rfl) ?_
  refine va_new (ci := 0) (fs := [.int 0, .int 0, .double 0, .double 0, .double 0, .double 0]) (C := RX0) (T := TX0) (N := 6) hx hb hts (by decide +kernel) tyX0 tyX0_ok hown (hts (.classLink RX1 9 RX0) (by decide +kernel)) (hts (.instantiable RX0 6) (by decide +kernel)) (hts (.initialized RX0) (by decide +kernel)) hK hP hD hS hA rfl (fun j hj => by rcases (show j = 0 ∨ j = 1 ∨ j = 2 ∨ j = 3 ∨ j = 4 ∨ j = 5 by omega) with rfl | rfl | rfl | rfl | rfl | rfl <;> rfl) (Nat.le_of_ble_eq_true rfl) (Nat.le_of_ble_eq_true rfl) dX1_init_29 (fun b0 H hP hD hS => ?_)
  have hP : va_P D vwCl [(r, .inr (1, [.ref la, .int 0, .int 0, .int 0, .double 0])), (la, .inl (cA, (8, .inr (.inr (.inr (.inr (fun _ => none))))))), (b0, .inr (0, [.int 0, .int 0, .double 0, .double 0, .double 0, .double 0]))] H := hP
  have hD : va_D A [(r, .inr (1, [.ref la, .int 0, .int 0, .int 0, .double 0])), (la, .inl (cA, (8, .inr (.inr (.inr (.inr (fun _ => none))))))), (b0, .inr (0, [.int 0, .int 0, .double 0, .double 0, .double 0, .double 0]))] := hD
  refine lv_dup hx hb dX1_init_32 rfl ?_
  refine ko_v (k := 2) (va_runIN (As := []) (rest := [.ref b0, .int 0, .ref la]) ⟨hx, hb, hml, hown, hts⟩ (metX0_init l D H.size b0 0 0 0 0 0 0) ⟨va_cnB 0 hts gX1_init_X0_init_n17 rfl rfl rfl hNw (hts (.initialized RX0) (by decide +kernel)) (by decide +kernel) ⟨Nat.le_of_ble_eq_true rfl, Nat.le_of_ble_eq_true rfl⟩, rfl, hts (.instanceMethod yX0_init) (by decide +kernel)⟩ (pmS (vj_oP (k := 2) rfl hP) (hK.sub [] rfl) (vj_oD (k := 2) rfl hD)) rfl rfl hl.1 rfl (lv_room (Nat.le_of_ble_eq_true rfl)) dX1_init_33 ⟨Nat.le_of_ble_eq_true rfl, Nat.le_of_ble_eq_true rfl⟩) rfl hP hD hS hA (fun H locs hP hD hS => ?_)
  have hP : va_P D vwCl [(r, .inr (1, [.ref la, .int 0, .int 0, .int 0, .double 0])), (la, .inl (cA, (8, .inr (.inr (.inr (.inr (fun _ => none))))))), (b0, .inr (0, [.int 0, .int 0, .double 0, .double 0, .double 0, .double 0]))] H := hP
  have hD : va_D A [(r, .inr (1, [.ref la, .int 0, .int 0, .int 0, .double 0])), (la, .inl (cA, (8, .inr (.inr (.inr (.inr (fun _ => none))))))), (b0, .inr (0, [.int 0, .int 0, .double 0, .double 0, .double 0, .double 0]))] := hD
  refine va_astq hx hb hK hP hD hS 1 0 2 0 rfl (r := (RX0, TX0, 6)) rfl rfl rfl (vp_in_nI (n := 0) (by decide) (by decide)) dX1_init_36 (fun H locs hP hD hS => ?_)
  have hP : va_P D vwCl [(r, .inr (1, [.ref la, .int 0, .int 0, .int 0, .double 0])), (la, .inl (cA, (8, .inr (.inr (.inr (.inr (va_up (fun _ => none) 0 (some b0)))))))), (b0, .inr (0, [.int 0, .int 0, .double 0, .double 0, .double 0, .double 0]))] H := hP
  have hD : va_D A [(r, .inr (1, [.ref la, .int 0, .int 0, .int 0, .double 0])), (la, .inl (cA, (8, .inr (.inr (.inr (.inr (va_up (fun _ => none) 0 (some b0)))))))), (b0, .inr (0, [.int 0, .int 0, .double 0, .double 0, .double 0, .double 0]))] := hD
  refine lv_iinc (v := 1) (lv' := [(1, .int 1), (0, .ref r)]) hx hb dX1_init_37 hl (k := 0) rfl rfl (by decide) rfl (fun ls hl => ?_)
  refine lv_goto (tgt := 15) hx hb dX1_init_40 (by decide) ?_
  refine lv_iload_n hx hb dX1_init_15 rfl (lv_at hl 0 rfl) ?_
  refine lv_aload_n hx hb dX1_init_16 rfl (lv_at hl 1 rfl) ?_
  refine va_get (D := D) (ci := 1) (v := .ref la) (C := RX1) (T := TX1) (N := 5) hx hb hts (by decide +kernel) hown hK hP (0) rfl rfl 0 (by decide) (hts (.fieldLink RX1 11 "VinegarLoft$Row" "line" "[LVinegarLoft$Barrel;") (by decide +kernel)) (fun _ h9 => h9) rfl dX1_init_17 ?_
  refine va_alen hx hb hK hP 1 0 (v := 8) rfl rfl rfl dX1_init_20 ?_
  refine lv_icmp_ge (tgt := 43) hx hb dX1_init_21 (by decide) (fun c21 => absurd c21 (by decide)) (fun c21 => ?_)
  refine lv_aload_n hx hb dX1_init_24 rfl (lv_at hl 1 rfl) ?_
  refine va_get (D := D) (ci := 1) (v := .ref la) (C := RX1) (T := TX1) (N := 5) hx hb hts (by decide +kernel) hown hK hP (0) rfl rfl 0 (by decide) (hts (.fieldLink RX1 11 "VinegarLoft$Row" "line" "[LVinegarLoft$Barrel;") (by decide +kernel)) (fun _ h9 => h9) rfl dX1_init_25 ?_
  refine lv_iload_n hx hb dX1_init_28 rfl (lv_at hl 0 rfl) ?_
  refine va_new (ci := 0) (fs := [.int 0, .int 0, .double 0, .double 0, .double 0, .double 0]) (C := RX0) (T := TX0) (N := 6) hx hb hts (by decide +kernel) tyX0 tyX0_ok hown (hts (.classLink RX1 9 RX0) (by decide +kernel)) (hts (.instantiable RX0 6) (by decide +kernel)) (hts (.initialized RX0) (by decide +kernel)) hK hP hD hS hA rfl (fun j hj => by rcases (show j = 0 ∨ j = 1 ∨ j = 2 ∨ j = 3 ∨ j = 4 ∨ j = 5 by omega) with rfl | rfl | rfl | rfl | rfl | rfl <;> rfl) (Nat.le_of_ble_eq_true rfl) (Nat.le_of_ble_eq_true rfl) dX1_init_29 (fun b1 H hP hD hS => ?_)
  have hP : va_P D vwCl [(r, .inr (1, [.ref la, .int 0, .int 0, .int 0, .double 0])), (la, .inl (cA, (8, .inr (.inr (.inr (.inr (va_up (fun _ => none) 0 (some b0)))))))), (b0, .inr (0, [.int 0, .int 0, .double 0, .double 0, .double 0, .double 0])), (b1, .inr (0, [.int 0, .int 0, .double 0, .double 0, .double 0, .double 0]))] H := hP
  have hD : va_D A [(r, .inr (1, [.ref la, .int 0, .int 0, .int 0, .double 0])), (la, .inl (cA, (8, .inr (.inr (.inr (.inr (va_up (fun _ => none) 0 (some b0)))))))), (b0, .inr (0, [.int 0, .int 0, .double 0, .double 0, .double 0, .double 0])), (b1, .inr (0, [.int 0, .int 0, .double 0, .double 0, .double 0, .double 0]))] := hD
  refine lv_dup hx hb dX1_init_32 rfl ?_
  refine ko_v (k := 3) (va_runIN (As := []) (rest := [.ref b1, .int 1, .ref la]) ⟨hx, hb, hml, hown, hts⟩ (metX0_init l D H.size b1 0 0 0 0 0 0) ⟨va_cnB 0 hts gX1_init_X0_init_n17 rfl rfl rfl hNw (hts (.initialized RX0) (by decide +kernel)) (by decide +kernel) ⟨Nat.le_of_ble_eq_true rfl, Nat.le_of_ble_eq_true rfl⟩, rfl, hts (.instanceMethod yX0_init) (by decide +kernel)⟩ (pmS (vj_oP (k := 3) rfl hP) (hK.sub [] rfl) (vj_oD (k := 3) rfl hD)) rfl rfl hl.1 rfl (lv_room (Nat.le_of_ble_eq_true rfl)) dX1_init_33 ⟨Nat.le_of_ble_eq_true rfl, Nat.le_of_ble_eq_true rfl⟩) rfl hP hD hS hA (fun H locs hP hD hS => ?_)
  have hP : va_P D vwCl [(r, .inr (1, [.ref la, .int 0, .int 0, .int 0, .double 0])), (la, .inl (cA, (8, .inr (.inr (.inr (.inr (va_up (fun _ => none) 0 (some b0)))))))), (b0, .inr (0, [.int 0, .int 0, .double 0, .double 0, .double 0, .double 0])), (b1, .inr (0, [.int 0, .int 0, .double 0, .double 0, .double 0, .double 0]))] H := hP
  have hD : va_D A [(r, .inr (1, [.ref la, .int 0, .int 0, .int 0, .double 0])), (la, .inl (cA, (8, .inr (.inr (.inr (.inr (va_up (fun _ => none) 0 (some b0)))))))), (b0, .inr (0, [.int 0, .int 0, .double 0, .double 0, .double 0, .double 0])), (b1, .inr (0, [.int 0, .int 0, .double 0, .double 0, .double 0, .double 0]))] := hD
  refine va_astq hx hb hK hP hD hS 1 0 3 0 rfl (r := (RX0, TX0, 6)) rfl rfl rfl (vp_in_nI (n := 1) (by decide) (by decide)) dX1_init_36 (fun H locs hP hD hS => ?_)
  have hP : va_P D vwCl [(r, .inr (1, [.ref la, .int 0, .int 0, .int 0, .double 0])), (la, .inl (cA, (8, .inr (.inr (.inr (.inr (va_up (va_up (fun _ => none) 0 (some b0)) 1 (some b1)))))))), (b0, .inr (0, [.int 0, .int 0, .double 0, .double 0, .double 0, .double 0])), (b1, .inr (0, [.int 0, .int 0, .double 0, .double 0, .double 0, .double 0]))] H := hP
  have hD : va_D A [(r, .inr (1, [.ref la, .int 0, .int 0, .int 0, .double 0])), (la, .inl (cA, (8, .inr (.inr (.inr (.inr (va_up (va_up (fun _ => none) 0 (some b0)) 1 (some b1)))))))), (b0, .inr (0, [.int 0, .int 0, .double 0, .double 0, .double 0, .double 0])), (b1, .inr (0, [.int 0, .int 0, .double 0, .double 0, .double 0, .double 0]))] := hD
  refine lv_iinc (v := 2) (lv' := [(1, .int 2), (0, .ref r)]) hx hb dX1_init_37 hl (k := 0) rfl rfl (by decide) rfl (fun ls hl => ?_)
  refine lv_goto (tgt := 15) hx hb dX1_init_40 (by decide) ?_
  refine lv_iload_n hx hb dX1_init_15 rfl (lv_at hl 0 rfl) ?_
  refine lv_aload_n hx hb dX1_init_16 rfl (lv_at hl 1 rfl) ?_
  refine va_get (D := D) (ci := 1) (v := .ref la) (C := RX1) (T := TX1) (N := 5) hx hb hts (by decide +kernel) hown hK hP (0) rfl rfl 0 (by decide) (hts (.fieldLink RX1 11 "VinegarLoft$Row" "line" "[LVinegarLoft$Barrel;") (by decide +kernel)) (fun _ h9 => h9) rfl dX1_init_17 ?_
  refine va_alen hx hb hK hP 1 0 (v := 8) rfl rfl rfl dX1_init_20 ?_
  refine lv_icmp_ge (tgt := 43) hx hb dX1_init_21 (by decide) (fun c21 => absurd c21 (by decide)) (fun c21 => ?_)
  refine lv_aload_n hx hb dX1_init_24 rfl (lv_at hl 1 rfl) ?_
  refine va_get (D := D) (ci := 1) (v := .ref la) (C := RX1) (T := TX1) (N := 5) hx hb hts (by decide +kernel) hown hK hP (0) rfl rfl 0 (by decide) (hts (.fieldLink RX1 11 "VinegarLoft$Row" "line" "[LVinegarLoft$Barrel;") (by decide +kernel)) (fun _ h9 => h9) rfl dX1_init_25 ?_
  refine lv_iload_n hx hb dX1_init_28 rfl (lv_at hl 0 rfl) ?_
  refine va_new (ci := 0) (fs := [.int 0, .int 0, .double 0, .double 0, .double 0, .double 0]) (C := RX0) (T := TX0) (N := 6) hx hb hts (by decide +kernel) tyX0 tyX0_ok hown (hts (.classLink RX1 9 RX0) (by decide +kernel)) (hts (.instantiable RX0 6) (by decide +kernel)) (hts (.initialized RX0) (by decide +kernel)) hK hP hD hS hA rfl (fun j hj => by rcases (show j = 0 ∨ j = 1 ∨ j = 2 ∨ j = 3 ∨ j = 4 ∨ j = 5 by omega) with rfl | rfl | rfl | rfl | rfl | rfl <;> rfl) (Nat.le_of_ble_eq_true rfl) (Nat.le_of_ble_eq_true rfl) dX1_init_29 (fun b2 H hP hD hS => ?_)
  have hP : va_P D vwCl [(r, .inr (1, [.ref la, .int 0, .int 0, .int 0, .double 0])), (la, .inl (cA, (8, .inr (.inr (.inr (.inr (va_up (va_up (fun _ => none) 0 (some b0)) 1 (some b1)))))))), (b0, .inr (0, [.int 0, .int 0, .double 0, .double 0, .double 0, .double 0])), (b1, .inr (0, [.int 0, .int 0, .double 0, .double 0, .double 0, .double 0])), (b2, .inr (0, [.int 0, .int 0, .double 0, .double 0, .double 0, .double 0]))] H := hP
  have hD : va_D A [(r, .inr (1, [.ref la, .int 0, .int 0, .int 0, .double 0])), (la, .inl (cA, (8, .inr (.inr (.inr (.inr (va_up (va_up (fun _ => none) 0 (some b0)) 1 (some b1)))))))), (b0, .inr (0, [.int 0, .int 0, .double 0, .double 0, .double 0, .double 0])), (b1, .inr (0, [.int 0, .int 0, .double 0, .double 0, .double 0, .double 0])), (b2, .inr (0, [.int 0, .int 0, .double 0, .double 0, .double 0, .double 0]))] := hD
  refine lv_dup hx hb dX1_init_32 rfl ?_
  refine ko_v (k := 4) (va_runIN (As := []) (rest := [.ref b2, .int 2, .ref la]) ⟨hx, hb, hml, hown, hts⟩ (metX0_init l D H.size b2 0 0 0 0 0 0) ⟨va_cnB 0 hts gX1_init_X0_init_n17 rfl rfl rfl hNw (hts (.initialized RX0) (by decide +kernel)) (by decide +kernel) ⟨Nat.le_of_ble_eq_true rfl, Nat.le_of_ble_eq_true rfl⟩, rfl, hts (.instanceMethod yX0_init) (by decide +kernel)⟩ (pmS (vj_oP (k := 4) rfl hP) (hK.sub [] rfl) (vj_oD (k := 4) rfl hD)) rfl rfl hl.1 rfl (lv_room (Nat.le_of_ble_eq_true rfl)) dX1_init_33 ⟨Nat.le_of_ble_eq_true rfl, Nat.le_of_ble_eq_true rfl⟩) rfl hP hD hS hA (fun H locs hP hD hS => ?_)
  have hP : va_P D vwCl [(r, .inr (1, [.ref la, .int 0, .int 0, .int 0, .double 0])), (la, .inl (cA, (8, .inr (.inr (.inr (.inr (va_up (va_up (fun _ => none) 0 (some b0)) 1 (some b1)))))))), (b0, .inr (0, [.int 0, .int 0, .double 0, .double 0, .double 0, .double 0])), (b1, .inr (0, [.int 0, .int 0, .double 0, .double 0, .double 0, .double 0])), (b2, .inr (0, [.int 0, .int 0, .double 0, .double 0, .double 0, .double 0]))] H := hP
  have hD : va_D A [(r, .inr (1, [.ref la, .int 0, .int 0, .int 0, .double 0])), (la, .inl (cA, (8, .inr (.inr (.inr (.inr (va_up (va_up (fun _ => none) 0 (some b0)) 1 (some b1)))))))), (b0, .inr (0, [.int 0, .int 0, .double 0, .double 0, .double 0, .double 0])), (b1, .inr (0, [.int 0, .int 0, .double 0, .double 0, .double 0, .double 0])), (b2, .inr (0, [.int 0, .int 0, .double 0, .double 0, .double 0, .double 0]))] := hD
  refine va_astq hx hb hK hP hD hS 1 0 4 0 rfl (r := (RX0, TX0, 6)) rfl rfl rfl (vp_in_nI (n := 2) (by decide) (by decide)) dX1_init_36 (fun H locs hP hD hS => ?_)
  have hP : va_P D vwCl [(r, .inr (1, [.ref la, .int 0, .int 0, .int 0, .double 0])), (la, .inl (cA, (8, .inr (.inr (.inr (.inr (va_up (va_up (va_up (fun _ => none) 0 (some b0)) 1 (some b1)) 2 (some b2)))))))), (b0, .inr (0, [.int 0, .int 0, .double 0, .double 0, .double 0, .double 0])), (b1, .inr (0, [.int 0, .int 0, .double 0, .double 0, .double 0, .double 0])), (b2, .inr (0, [.int 0, .int 0, .double 0, .double 0, .double 0, .double 0]))] H := hP
  have hD : va_D A [(r, .inr (1, [.ref la, .int 0, .int 0, .int 0, .double 0])), (la, .inl (cA, (8, .inr (.inr (.inr (.inr (va_up (va_up (va_up (fun _ => none) 0 (some b0)) 1 (some b1)) 2 (some b2)))))))), (b0, .inr (0, [.int 0, .int 0, .double 0, .double 0, .double 0, .double 0])), (b1, .inr (0, [.int 0, .int 0, .double 0, .double 0, .double 0, .double 0])), (b2, .inr (0, [.int 0, .int 0, .double 0, .double 0, .double 0, .double 0]))] := hD
  refine lv_iinc (v := 3) (lv' := [(1, .int 3), (0, .ref r)]) hx hb dX1_init_37 hl (k := 0) rfl rfl (by decide) rfl (fun ls hl => ?_)
  refine lv_goto (tgt := 15) hx hb dX1_init_40 (by decide) ?_
  refine lv_iload_n hx hb dX1_init_15 rfl (lv_at hl 0 rfl) ?_
  refine lv_aload_n hx hb dX1_init_16 rfl (lv_at hl 1 rfl) ?_
  refine va_get (D := D) (ci := 1) (v := .ref la) (C := RX1) (T := TX1) (N := 5) hx hb hts (by decide +kernel) hown hK hP (0) rfl rfl 0 (by decide) (hts (.fieldLink RX1 11 "VinegarLoft$Row" "line" "[LVinegarLoft$Barrel;") (by decide +kernel)) (fun _ h9 => h9) rfl dX1_init_17 ?_
  refine va_alen hx hb hK hP 1 0 (v := 8) rfl rfl rfl dX1_init_20 ?_
  refine lv_icmp_ge (tgt := 43) hx hb dX1_init_21 (by decide) (fun c21 => absurd c21 (by decide)) (fun c21 => ?_)
  refine lv_aload_n hx hb dX1_init_24 rfl (lv_at hl 1 rfl) ?_
  refine va_get (D := D) (ci := 1) (v := .ref la) (C := RX1) (T := TX1) (N := 5) hx hb hts (by decide +kernel) hown hK hP (0) rfl rfl 0 (by decide) (hts (.fieldLink RX1 11 "VinegarLoft$Row" "line" "[LVinegarLoft$Barrel;") (by decide +kernel)) (fun _ h9 => h9) rfl dX1_init_25 ?_
  refine lv_iload_n hx hb dX1_init_28 rfl (lv_at hl 0 rfl) ?_
  refine va_new (ci := 0) (fs := [.int 0, .int 0, .double 0, .double 0, .double 0, .double 0]) (C := RX0) (T := TX0) (N := 6) hx hb hts (by decide +kernel) tyX0 tyX0_ok hown (hts (.classLink RX1 9 RX0) (by decide +kernel)) (hts (.instantiable RX0 6) (by decide +kernel)) (hts (.initialized RX0) (by decide +kernel)) hK hP hD hS hA rfl (fun j hj => by rcases (show j = 0 ∨ j = 1 ∨ j = 2 ∨ j = 3 ∨ j = 4 ∨ j = 5 by omega) with rfl | rfl | rfl | rfl | rfl | rfl <;> rfl) (Nat.le_of_ble_eq_true rfl) (Nat.le_of_ble_eq_true rfl) dX1_init_29 (fun b3 H hP hD hS => ?_)
  have hP : va_P D vwCl [(r, .inr (1, [.ref la, .int 0, .int 0, .int 0, .double 0])), (la, .inl (cA, (8, .inr (.inr (.inr (.inr (va_up (va_up (va_up (fun _ => none) 0 (some b0)) 1 (some b1)) 2 (some b2)))))))), (b0, .inr (0, [.int 0, .int 0, .double 0, .double 0, .double 0, .double 0])), (b1, .inr (0, [.int 0, .int 0, .double 0, .double 0, .double 0, .double 0])), (b2, .inr (0, [.int 0, .int 0, .double 0, .double 0, .double 0, .double 0])), (b3, .inr (0, [.int 0, .int 0, .double 0, .double 0, .double 0, .double 0]))] H := hP
  have hD : va_D A [(r, .inr (1, [.ref la, .int 0, .int 0, .int 0, .double 0])), (la, .inl (cA, (8, .inr (.inr (.inr (.inr (va_up (va_up (va_up (fun _ => none) 0 (some b0)) 1 (some b1)) 2 (some b2)))))))), (b0, .inr (0, [.int 0, .int 0, .double 0, .double 0, .double 0, .double 0])), (b1, .inr (0, [.int 0, .int 0, .double 0, .double 0, .double 0, .double 0])), (b2, .inr (0, [.int 0, .int 0, .double 0, .double 0, .double 0, .double 0])), (b3, .inr (0, [.int 0, .int 0, .double 0, .double 0, .double 0, .double 0]))] := hD
  refine lv_dup hx hb dX1_init_32 rfl ?_
  refine ko_v (k := 5) (va_runIN (As := []) (rest := [.ref b3, .int 3, .ref la]) ⟨hx, hb, hml, hown, hts⟩ (metX0_init l D H.size b3 0 0 0 0 0 0) ⟨va_cnB 0 hts gX1_init_X0_init_n17 rfl rfl rfl hNw (hts (.initialized RX0) (by decide +kernel)) (by decide +kernel) ⟨Nat.le_of_ble_eq_true rfl, Nat.le_of_ble_eq_true rfl⟩, rfl, hts (.instanceMethod yX0_init) (by decide +kernel)⟩ (pmS (vj_oP (k := 5) rfl hP) (hK.sub [] rfl) (vj_oD (k := 5) rfl hD)) rfl rfl hl.1 rfl (lv_room (Nat.le_of_ble_eq_true rfl)) dX1_init_33 ⟨Nat.le_of_ble_eq_true rfl, Nat.le_of_ble_eq_true rfl⟩) rfl hP hD hS hA (fun H locs hP hD hS => ?_)
  have hP : va_P D vwCl [(r, .inr (1, [.ref la, .int 0, .int 0, .int 0, .double 0])), (la, .inl (cA, (8, .inr (.inr (.inr (.inr (va_up (va_up (va_up (fun _ => none) 0 (some b0)) 1 (some b1)) 2 (some b2)))))))), (b0, .inr (0, [.int 0, .int 0, .double 0, .double 0, .double 0, .double 0])), (b1, .inr (0, [.int 0, .int 0, .double 0, .double 0, .double 0, .double 0])), (b2, .inr (0, [.int 0, .int 0, .double 0, .double 0, .double 0, .double 0])), (b3, .inr (0, [.int 0, .int 0, .double 0, .double 0, .double 0, .double 0]))] H := hP
  have hD : va_D A [(r, .inr (1, [.ref la, .int 0, .int 0, .int 0, .double 0])), (la, .inl (cA, (8, .inr (.inr (.inr (.inr (va_up (va_up (va_up (fun _ => none) 0 (some b0)) 1 (some b1)) 2 (some b2)))))))), (b0, .inr (0, [.int 0, .int 0, .double 0, .double 0, .double 0, .double 0])), (b1, .inr (0, [.int 0, .int 0, .double 0, .double 0, .double 0, .double 0])), (b2, .inr (0, [.int 0, .int 0, .double 0, .double 0, .double 0, .double 0])), (b3, .inr (0, [.int 0, .int 0, .double 0, .double 0, .double 0, .double 0]))] := hD
  refine va_astq hx hb hK hP hD hS 1 0 5 0 rfl (r := (RX0, TX0, 6)) rfl rfl rfl (vp_in_nI (n := 3) (by decide) (by decide)) dX1_init_36 (fun H locs hP hD hS => ?_)
  have hP : va_P D vwCl [(r, .inr (1, [.ref la, .int 0, .int 0, .int 0, .double 0])), (la, .inl (cA, (8, .inr (.inr (.inr (.inr (va_up (va_up (va_up (va_up (fun _ => none) 0 (some b0)) 1 (some b1)) 2 (some b2)) 3 (some b3)))))))), (b0, .inr (0, [.int 0, .int 0, .double 0, .double 0, .double 0, .double 0])), (b1, .inr (0, [.int 0, .int 0, .double 0, .double 0, .double 0, .double 0])), (b2, .inr (0, [.int 0, .int 0, .double 0, .double 0, .double 0, .double 0])), (b3, .inr (0, [.int 0, .int 0, .double 0, .double 0, .double 0, .double 0]))] H := hP
  have hD : va_D A [(r, .inr (1, [.ref la, .int 0, .int 0, .int 0, .double 0])), (la, .inl (cA, (8, .inr (.inr (.inr (.inr (va_up (va_up (va_up (va_up (fun _ => none) 0 (some b0)) 1 (some b1)) 2 (some b2)) 3 (some b3)))))))), (b0, .inr (0, [.int 0, .int 0, .double 0, .double 0, .double 0, .double 0])), (b1, .inr (0, [.int 0, .int 0, .double 0, .double 0, .double 0, .double 0])), (b2, .inr (0, [.int 0, .int 0, .double 0, .double 0, .double 0, .double 0])), (b3, .inr (0, [.int 0, .int 0, .double 0, .double 0, .double 0, .double 0]))] := hD
  refine lv_iinc (v := 4) (lv' := [(1, .int 4), (0, .ref r)]) hx hb dX1_init_37 hl (k := 0) rfl rfl (by decide) rfl (fun ls hl => ?_)
  refine lv_goto (tgt := 15) hx hb dX1_init_40 (by decide) ?_
  refine lv_iload_n hx hb dX1_init_15 rfl (lv_at hl 0 rfl) ?_
  refine lv_aload_n hx hb dX1_init_16 rfl (lv_at hl 1 rfl) ?_
  refine va_get (D := D) (ci := 1) (v := .ref la) (C := RX1) (T := TX1) (N := 5) hx hb hts (by decide +kernel) hown hK hP (0) rfl rfl 0 (by decide) (hts (.fieldLink RX1 11 "VinegarLoft$Row" "line" "[LVinegarLoft$Barrel;") (by decide +kernel)) (fun _ h9 => h9) rfl dX1_init_17 ?_
  refine va_alen hx hb hK hP 1 0 (v := 8) rfl rfl rfl dX1_init_20 ?_
  refine lv_icmp_ge (tgt := 43) hx hb dX1_init_21 (by decide) (fun c21 => absurd c21 (by decide)) (fun c21 => ?_)
  refine lv_aload_n hx hb dX1_init_24 rfl (lv_at hl 1 rfl) ?_
  refine va_get (D := D) (ci := 1) (v := .ref la) (C := RX1) (T := TX1) (N := 5) hx hb hts (by decide +kernel) hown hK hP (0) rfl rfl 0 (by decide) (hts (.fieldLink RX1 11 "VinegarLoft$Row" "line" "[LVinegarLoft$Barrel;") (by decide +kernel)) (fun _ h9 => h9) rfl dX1_init_25 ?_
  refine lv_iload_n hx hb dX1_init_28 rfl (lv_at hl 0 rfl) ?_
  refine va_new (ci := 0) (fs := [.int 0, .int 0, .double 0, .double 0, .double 0, .double 0]) (C := RX0) (T := TX0) (N := 6) hx hb hts (by decide +kernel) tyX0 tyX0_ok hown (hts (.classLink RX1 9 RX0) (by decide +kernel)) (hts (.instantiable RX0 6) (by decide +kernel)) (hts (.initialized RX0) (by decide +kernel)) hK hP hD hS hA rfl (fun j hj => by rcases (show j = 0 ∨ j = 1 ∨ j = 2 ∨ j = 3 ∨ j = 4 ∨ j = 5 by omega) with rfl | rfl | rfl | rfl | rfl | rfl <;> rfl) (Nat.le_of_ble_eq_true rfl) (Nat.le_of_ble_eq_true rfl) dX1_init_29 (fun b4 H hP hD hS => ?_)
  have hP : va_P D vwCl [(r, .inr (1, [.ref la, .int 0, .int 0, .int 0, .double 0])), (la, .inl (cA, (8, .inr (.inr (.inr (.inr (va_up (va_up (va_up (va_up (fun _ => none) 0 (some b0)) 1 (some b1)) 2 (some b2)) 3 (some b3)))))))), (b0, .inr (0, [.int 0, .int 0, .double 0, .double 0, .double 0, .double 0])), (b1, .inr (0, [.int 0, .int 0, .double 0, .double 0, .double 0, .double 0])), (b2, .inr (0, [.int 0, .int 0, .double 0, .double 0, .double 0, .double 0])), (b3, .inr (0, [.int 0, .int 0, .double 0, .double 0, .double 0, .double 0])), (b4, .inr (0, [.int 0, .int 0, .double 0, .double 0, .double 0, .double 0]))] H := hP
  have hD : va_D A [(r, .inr (1, [.ref la, .int 0, .int 0, .int 0, .double 0])), (la, .inl (cA, (8, .inr (.inr (.inr (.inr (va_up (va_up (va_up (va_up (fun _ => none) 0 (some b0)) 1 (some b1)) 2 (some b2)) 3 (some b3)))))))), (b0, .inr (0, [.int 0, .int 0, .double 0, .double 0, .double 0, .double 0])), (b1, .inr (0, [.int 0, .int 0, .double 0, .double 0, .double 0, .double 0])), (b2, .inr (0, [.int 0, .int 0, .double 0, .double 0, .double 0, .double 0])), (b3, .inr (0, [.int 0, .int 0, .double 0, .double 0, .double 0, .double 0])), (b4, .inr (0, [.int 0, .int 0, .double 0, .double 0, .double 0, .double 0]))] := hD
  refine lv_dup hx hb dX1_init_32 rfl ?_
  refine ko_v (k := 6) (va_runIN (As := []) (rest := [.ref b4, .int 4, .ref la]) ⟨hx, hb, hml, hown, hts⟩ (metX0_init l D H.size b4 0 0 0 0 0 0) ⟨va_cnB 0 hts gX1_init_X0_init_n17 rfl rfl rfl hNw (hts (.initialized RX0) (by decide +kernel)) (by decide +kernel) ⟨Nat.le_of_ble_eq_true rfl, Nat.le_of_ble_eq_true rfl⟩, rfl, hts (.instanceMethod yX0_init) (by decide +kernel)⟩ (pmS (vj_oP (k := 6) rfl hP) (hK.sub [] rfl) (vj_oD (k := 6) rfl hD)) rfl rfl hl.1 rfl (lv_room (Nat.le_of_ble_eq_true rfl)) dX1_init_33 ⟨Nat.le_of_ble_eq_true rfl, Nat.le_of_ble_eq_true rfl⟩) rfl hP hD hS hA (fun H locs hP hD hS => ?_)
  have hP : va_P D vwCl [(r, .inr (1, [.ref la, .int 0, .int 0, .int 0, .double 0])), (la, .inl (cA, (8, .inr (.inr (.inr (.inr (va_up (va_up (va_up (va_up (fun _ => none) 0 (some b0)) 1 (some b1)) 2 (some b2)) 3 (some b3)))))))), (b0, .inr (0, [.int 0, .int 0, .double 0, .double 0, .double 0, .double 0])), (b1, .inr (0, [.int 0, .int 0, .double 0, .double 0, .double 0, .double 0])), (b2, .inr (0, [.int 0, .int 0, .double 0, .double 0, .double 0, .double 0])), (b3, .inr (0, [.int 0, .int 0, .double 0, .double 0, .double 0, .double 0])), (b4, .inr (0, [.int 0, .int 0, .double 0, .double 0, .double 0, .double 0]))] H := hP
  have hD : va_D A [(r, .inr (1, [.ref la, .int 0, .int 0, .int 0, .double 0])), (la, .inl (cA, (8, .inr (.inr (.inr (.inr (va_up (va_up (va_up (va_up (fun _ => none) 0 (some b0)) 1 (some b1)) 2 (some b2)) 3 (some b3)))))))), (b0, .inr (0, [.int 0, .int 0, .double 0, .double 0, .double 0, .double 0])), (b1, .inr (0, [.int 0, .int 0, .double 0, .double 0, .double 0, .double 0])), (b2, .inr (0, [.int 0, .int 0, .double 0, .double 0, .double 0, .double 0])), (b3, .inr (0, [.int 0, .int 0, .double 0, .double 0, .double 0, .double 0])), (b4, .inr (0, [.int 0, .int 0, .double 0, .double 0, .double 0, .double 0]))] := hD
  refine va_astq hx hb hK hP hD hS 1 0 6 0 rfl (r := (RX0, TX0, 6)) rfl rfl rfl (vp_in_nI (n := 4) (by decide) (by decide)) dX1_init_36 (fun H locs hP hD hS => ?_)
  have hP : va_P D vwCl [(r, .inr (1, [.ref la, .int 0, .int 0, .int 0, .double 0])), (la, .inl (cA, (8, .inr (.inr (.inr (.inr (va_up (va_up (va_up (va_up (va_up (fun _ => none) 0 (some b0)) 1 (some b1)) 2 (some b2)) 3 (some b3)) 4 (some b4)))))))), (b0, .inr (0, [.int 0, .int 0, .double 0, .double 0, .double 0, .double 0])), (b1, .inr (0, [.int 0, .int 0, .double 0, .double 0, .double 0, .double 0])), (b2, .inr (0, [.int 0, .int 0, .double 0, .double 0, .double 0, .double 0])), (b3, .inr (0, [.int 0, .int 0, .double 0, .double 0, .double 0, .double 0])), (b4, .inr (0, [.int 0, .int 0, .double 0, .double 0, .double 0, .double 0]))] H := hP
  have hD : va_D A [(r, .inr (1, [.ref la, .int 0, .int 0, .int 0, .double 0])), (la, .inl (cA, (8, .inr (.inr (.inr (.inr (va_up (va_up (va_up (va_up (va_up (fun _ => none) 0 (some b0)) 1 (some b1)) 2 (some b2)) 3 (some b3)) 4 (some b4)))))))), (b0, .inr (0, [.int 0, .int 0, .double 0, .double 0, .double 0, .double 0])), (b1, .inr (0, [.int 0, .int 0, .double 0, .double 0, .double 0, .double 0])), (b2, .inr (0, [.int 0, .int 0, .double 0, .double 0, .double 0, .double 0])), (b3, .inr (0, [.int 0, .int 0, .double 0, .double 0, .double 0, .double 0])), (b4, .inr (0, [.int 0, .int 0, .double 0, .double 0, .double 0, .double 0]))] := hD
  refine lv_iinc (v := 5) (lv' := [(1, .int 5), (0, .ref r)]) hx hb dX1_init_37 hl (k := 0) rfl rfl (by decide) rfl (fun ls hl => ?_)
  refine lv_goto (tgt := 15) hx hb dX1_init_40 (by decide) ?_
  refine lv_iload_n hx hb dX1_init_15 rfl (lv_at hl 0 rfl) ?_
  refine lv_aload_n hx hb dX1_init_16 rfl (lv_at hl 1 rfl) ?_
  refine va_get (D := D) (ci := 1) (v := .ref la) (C := RX1) (T := TX1) (N := 5) hx hb hts (by decide +kernel) hown hK hP (0) rfl rfl 0 (by decide) (hts (.fieldLink RX1 11 "VinegarLoft$Row" "line" "[LVinegarLoft$Barrel;") (by decide +kernel)) (fun _ h9 => h9) rfl dX1_init_17 ?_
  refine va_alen hx hb hK hP 1 0 (v := 8) rfl rfl rfl dX1_init_20 ?_
  refine lv_icmp_ge (tgt := 43) hx hb dX1_init_21 (by decide) (fun c21 => absurd c21 (by decide)) (fun c21 => ?_)
  refine lv_aload_n hx hb dX1_init_24 rfl (lv_at hl 1 rfl) ?_
  refine va_get (D := D) (ci := 1) (v := .ref la) (C := RX1) (T := TX1) (N := 5) hx hb hts (by decide +kernel) hown hK hP (0) rfl rfl 0 (by decide) (hts (.fieldLink RX1 11 "VinegarLoft$Row" "line" "[LVinegarLoft$Barrel;") (by decide +kernel)) (fun _ h9 => h9) rfl dX1_init_25 ?_
  refine lv_iload_n hx hb dX1_init_28 rfl (lv_at hl 0 rfl) ?_
  refine va_new (ci := 0) (fs := [.int 0, .int 0, .double 0, .double 0, .double 0, .double 0]) (C := RX0) (T := TX0) (N := 6) hx hb hts (by decide +kernel) tyX0 tyX0_ok hown (hts (.classLink RX1 9 RX0) (by decide +kernel)) (hts (.instantiable RX0 6) (by decide +kernel)) (hts (.initialized RX0) (by decide +kernel)) hK hP hD hS hA rfl (fun j hj => by rcases (show j = 0 ∨ j = 1 ∨ j = 2 ∨ j = 3 ∨ j = 4 ∨ j = 5 by omega) with rfl | rfl | rfl | rfl | rfl | rfl <;> rfl) (Nat.le_of_ble_eq_true rfl) (Nat.le_of_ble_eq_true rfl) dX1_init_29 (fun b5 H hP hD hS => ?_)
  have hP : va_P D vwCl [(r, .inr (1, [.ref la, .int 0, .int 0, .int 0, .double 0])), (la, .inl (cA, (8, .inr (.inr (.inr (.inr (va_up (va_up (va_up (va_up (va_up (fun _ => none) 0 (some b0)) 1 (some b1)) 2 (some b2)) 3 (some b3)) 4 (some b4)))))))), (b0, .inr (0, [.int 0, .int 0, .double 0, .double 0, .double 0, .double 0])), (b1, .inr (0, [.int 0, .int 0, .double 0, .double 0, .double 0, .double 0])), (b2, .inr (0, [.int 0, .int 0, .double 0, .double 0, .double 0, .double 0])), (b3, .inr (0, [.int 0, .int 0, .double 0, .double 0, .double 0, .double 0])), (b4, .inr (0, [.int 0, .int 0, .double 0, .double 0, .double 0, .double 0])), (b5, .inr (0, [.int 0, .int 0, .double 0, .double 0, .double 0, .double 0]))] H := hP
  have hD : va_D A [(r, .inr (1, [.ref la, .int 0, .int 0, .int 0, .double 0])), (la, .inl (cA, (8, .inr (.inr (.inr (.inr (va_up (va_up (va_up (va_up (va_up (fun _ => none) 0 (some b0)) 1 (some b1)) 2 (some b2)) 3 (some b3)) 4 (some b4)))))))), (b0, .inr (0, [.int 0, .int 0, .double 0, .double 0, .double 0, .double 0])), (b1, .inr (0, [.int 0, .int 0, .double 0, .double 0, .double 0, .double 0])), (b2, .inr (0, [.int 0, .int 0, .double 0, .double 0, .double 0, .double 0])), (b3, .inr (0, [.int 0, .int 0, .double 0, .double 0, .double 0, .double 0])), (b4, .inr (0, [.int 0, .int 0, .double 0, .double 0, .double 0, .double 0])), (b5, .inr (0, [.int 0, .int 0, .double 0, .double 0, .double 0, .double 0]))] := hD
  refine lv_dup hx hb dX1_init_32 rfl ?_
  refine ko_v (k := 7) (va_runIN (As := []) (rest := [.ref b5, .int 5, .ref la]) ⟨hx, hb, hml, hown, hts⟩ (metX0_init l D H.size b5 0 0 0 0 0 0) ⟨va_cnB 0 hts gX1_init_X0_init_n17 rfl rfl rfl hNw (hts (.initialized RX0) (by decide +kernel)) (by decide +kernel) ⟨Nat.le_of_ble_eq_true rfl, Nat.le_of_ble_eq_true rfl⟩, rfl, hts (.instanceMethod yX0_init) (by decide +kernel)⟩ (pmS (vj_oP (k := 7) rfl hP) (hK.sub [] rfl) (vj_oD (k := 7) rfl hD)) rfl rfl hl.1 rfl (lv_room (Nat.le_of_ble_eq_true rfl)) dX1_init_33 ⟨Nat.le_of_ble_eq_true rfl, Nat.le_of_ble_eq_true rfl⟩) rfl hP hD hS hA (fun H locs hP hD hS => ?_)
  have hP : va_P D vwCl [(r, .inr (1, [.ref la, .int 0, .int 0, .int 0, .double 0])), (la, .inl (cA, (8, .inr (.inr (.inr (.inr (va_up (va_up (va_up (va_up (va_up (fun _ => none) 0 (some b0)) 1 (some b1)) 2 (some b2)) 3 (some b3)) 4 (some b4)))))))), (b0, .inr (0, [.int 0, .int 0, .double 0, .double 0, .double 0, .double 0])), (b1, .inr (0, [.int 0, .int 0, .double 0, .double 0, .double 0, .double 0])), (b2, .inr (0, [.int 0, .int 0, .double 0, .double 0, .double 0, .double 0])), (b3, .inr (0, [.int 0, .int 0, .double 0, .double 0, .double 0, .double 0])), (b4, .inr (0, [.int 0, .int 0, .double 0, .double 0, .double 0, .double 0])), (b5, .inr (0, [.int 0, .int 0, .double 0, .double 0, .double 0, .double 0]))] H := hP
  have hD : va_D A [(r, .inr (1, [.ref la, .int 0, .int 0, .int 0, .double 0])), (la, .inl (cA, (8, .inr (.inr (.inr (.inr (va_up (va_up (va_up (va_up (va_up (fun _ => none) 0 (some b0)) 1 (some b1)) 2 (some b2)) 3 (some b3)) 4 (some b4)))))))), (b0, .inr (0, [.int 0, .int 0, .double 0, .double 0, .double 0, .double 0])), (b1, .inr (0, [.int 0, .int 0, .double 0, .double 0, .double 0, .double 0])), (b2, .inr (0, [.int 0, .int 0, .double 0, .double 0, .double 0, .double 0])), (b3, .inr (0, [.int 0, .int 0, .double 0, .double 0, .double 0, .double 0])), (b4, .inr (0, [.int 0, .int 0, .double 0, .double 0, .double 0, .double 0])), (b5, .inr (0, [.int 0, .int 0, .double 0, .double 0, .double 0, .double 0]))] := hD
  refine va_astq hx hb hK hP hD hS 1 0 7 0 rfl (r := (RX0, TX0, 6)) rfl rfl rfl (vp_in_nI (n := 5) (by decide) (by decide)) dX1_init_36 (fun H locs hP hD hS => ?_)
  have hP : va_P D vwCl [(r, .inr (1, [.ref la, .int 0, .int 0, .int 0, .double 0])), (la, .inl (cA, (8, .inr (.inr (.inr (.inr (va_up (va_up (va_up (va_up (va_up (va_up (fun _ => none) 0 (some b0)) 1 (some b1)) 2 (some b2)) 3 (some b3)) 4 (some b4)) 5 (some b5)))))))), (b0, .inr (0, [.int 0, .int 0, .double 0, .double 0, .double 0, .double 0])), (b1, .inr (0, [.int 0, .int 0, .double 0, .double 0, .double 0, .double 0])), (b2, .inr (0, [.int 0, .int 0, .double 0, .double 0, .double 0, .double 0])), (b3, .inr (0, [.int 0, .int 0, .double 0, .double 0, .double 0, .double 0])), (b4, .inr (0, [.int 0, .int 0, .double 0, .double 0, .double 0, .double 0])), (b5, .inr (0, [.int 0, .int 0, .double 0, .double 0, .double 0, .double 0]))] H := hP
  have hD : va_D A [(r, .inr (1, [.ref la, .int 0, .int 0, .int 0, .double 0])), (la, .inl (cA, (8, .inr (.inr (.inr (.inr (va_up (va_up (va_up (va_up (va_up (va_up (fun _ => none) 0 (some b0)) 1 (some b1)) 2 (some b2)) 3 (some b3)) 4 (some b4)) 5 (some b5)))))))), (b0, .inr (0, [.int 0, .int 0, .double 0, .double 0, .double 0, .double 0])), (b1, .inr (0, [.int 0, .int 0, .double 0, .double 0, .double 0, .double 0])), (b2, .inr (0, [.int 0, .int 0, .double 0, .double 0, .double 0, .double 0])), (b3, .inr (0, [.int 0, .int 0, .double 0, .double 0, .double 0, .double 0])), (b4, .inr (0, [.int 0, .int 0, .double 0, .double 0, .double 0, .double 0])), (b5, .inr (0, [.int 0, .int 0, .double 0, .double 0, .double 0, .double 0]))] := hD
  refine lv_iinc (v := 6) (lv' := [(1, .int 6), (0, .ref r)]) hx hb dX1_init_37 hl (k := 0) rfl rfl (by decide) rfl (fun ls hl => ?_)
  refine lv_goto (tgt := 15) hx hb dX1_init_40 (by decide) ?_
  refine lv_iload_n hx hb dX1_init_15 rfl (lv_at hl 0 rfl) ?_
  refine lv_aload_n hx hb dX1_init_16 rfl (lv_at hl 1 rfl) ?_
  refine va_get (D := D) (ci := 1) (v := .ref la) (C := RX1) (T := TX1) (N := 5) hx hb hts (by decide +kernel) hown hK hP (0) rfl rfl 0 (by decide) (hts (.fieldLink RX1 11 "VinegarLoft$Row" "line" "[LVinegarLoft$Barrel;") (by decide +kernel)) (fun _ h9 => h9) rfl dX1_init_17 ?_
  refine va_alen hx hb hK hP 1 0 (v := 8) rfl rfl rfl dX1_init_20 ?_
  refine lv_icmp_ge (tgt := 43) hx hb dX1_init_21 (by decide) (fun c21 => absurd c21 (by decide)) (fun c21 => ?_)
  refine lv_aload_n hx hb dX1_init_24 rfl (lv_at hl 1 rfl) ?_
  refine va_get (D := D) (ci := 1) (v := .ref la) (C := RX1) (T := TX1) (N := 5) hx hb hts (by decide +kernel) hown hK hP (0) rfl rfl 0 (by decide) (hts (.fieldLink RX1 11 "VinegarLoft$Row" "line" "[LVinegarLoft$Barrel;") (by decide +kernel)) (fun _ h9 => h9) rfl dX1_init_25 ?_
  refine lv_iload_n hx hb dX1_init_28 rfl (lv_at hl 0 rfl) ?_
  refine va_new (ci := 0) (fs := [.int 0, .int 0, .double 0, .double 0, .double 0, .double 0]) (C := RX0) (T := TX0) (N := 6) hx hb hts (by decide +kernel) tyX0 tyX0_ok hown (hts (.classLink RX1 9 RX0) (by decide +kernel)) (hts (.instantiable RX0 6) (by decide +kernel)) (hts (.initialized RX0) (by decide +kernel)) hK hP hD hS hA rfl (fun j hj => by rcases (show j = 0 ∨ j = 1 ∨ j = 2 ∨ j = 3 ∨ j = 4 ∨ j = 5 by omega) with rfl | rfl | rfl | rfl | rfl | rfl <;> rfl) (Nat.le_of_ble_eq_true rfl) (Nat.le_of_ble_eq_true rfl) dX1_init_29 (fun b6 H hP hD hS => ?_)
  have hP : va_P D vwCl [(r, .inr (1, [.ref la, .int 0, .int 0, .int 0, .double 0])), (la, .inl (cA, (8, .inr (.inr (.inr (.inr (va_up (va_up (va_up (va_up (va_up (va_up (fun _ => none) 0 (some b0)) 1 (some b1)) 2 (some b2)) 3 (some b3)) 4 (some b4)) 5 (some b5)))))))), (b0, .inr (0, [.int 0, .int 0, .double 0, .double 0, .double 0, .double 0])), (b1, .inr (0, [.int 0, .int 0, .double 0, .double 0, .double 0, .double 0])), (b2, .inr (0, [.int 0, .int 0, .double 0, .double 0, .double 0, .double 0])), (b3, .inr (0, [.int 0, .int 0, .double 0, .double 0, .double 0, .double 0])), (b4, .inr (0, [.int 0, .int 0, .double 0, .double 0, .double 0, .double 0])), (b5, .inr (0, [.int 0, .int 0, .double 0, .double 0, .double 0, .double 0])), (b6, .inr (0, [.int 0, .int 0, .double 0, .double 0, .double 0, .double 0]))] H := hP
  have hD : va_D A [(r, .inr (1, [.ref la, .int 0, .int 0, .int 0, .double 0])), (la, .inl (cA, (8, .inr (.inr (.inr (.inr (va_up (va_up (va_up (va_up (va_up (va_up (fun _ => none) 0 (some b0)) 1 (some b1)) 2 (some b2)) 3 (some b3)) 4 (some b4)) 5 (some b5)))))))), (b0, .inr (0, [.int 0, .int 0, .double 0, .double 0, .double 0, .double 0])), (b1, .inr (0, [.int 0, .int 0, .double 0, .double 0, .double 0, .double 0])), (b2, .inr (0, [.int 0, .int 0, .double 0, .double 0, .double 0, .double 0])), (b3, .inr (0, [.int 0, .int 0, .double 0, .double 0, .double 0, .double 0])), (b4, .inr (0, [.int 0, .int 0, .double 0, .double 0, .double 0, .double 0])), (b5, .inr (0, [.int 0, .int 0, .double 0, .double 0, .double 0, .double 0])), (b6, .inr (0, [.int 0, .int 0, .double 0, .double 0, .double 0, .double 0]))] := hD
  refine lv_dup hx hb dX1_init_32 rfl ?_
  refine ko_v (k := 8) (va_runIN (As := []) (rest := [.ref b6, .int 6, .ref la]) ⟨hx, hb, hml, hown, hts⟩ (metX0_init l D H.size b6 0 0 0 0 0 0) ⟨va_cnB 0 hts gX1_init_X0_init_n17 rfl rfl rfl hNw (hts (.initialized RX0) (by decide +kernel)) (by decide +kernel) ⟨Nat.le_of_ble_eq_true rfl, Nat.le_of_ble_eq_true rfl⟩, rfl, hts (.instanceMethod yX0_init) (by decide +kernel)⟩ (pmS (vj_oP (k := 8) rfl hP) (hK.sub [] rfl) (vj_oD (k := 8) rfl hD)) rfl rfl hl.1 rfl (lv_room (Nat.le_of_ble_eq_true rfl)) dX1_init_33 ⟨Nat.le_of_ble_eq_true rfl, Nat.le_of_ble_eq_true rfl⟩) rfl hP hD hS hA (fun H locs hP hD hS => ?_)
  have hP : va_P D vwCl [(r, .inr (1, [.ref la, .int 0, .int 0, .int 0, .double 0])), (la, .inl (cA, (8, .inr (.inr (.inr (.inr (va_up (va_up (va_up (va_up (va_up (va_up (fun _ => none) 0 (some b0)) 1 (some b1)) 2 (some b2)) 3 (some b3)) 4 (some b4)) 5 (some b5)))))))), (b0, .inr (0, [.int 0, .int 0, .double 0, .double 0, .double 0, .double 0])), (b1, .inr (0, [.int 0, .int 0, .double 0, .double 0, .double 0, .double 0])), (b2, .inr (0, [.int 0, .int 0, .double 0, .double 0, .double 0, .double 0])), (b3, .inr (0, [.int 0, .int 0, .double 0, .double 0, .double 0, .double 0])), (b4, .inr (0, [.int 0, .int 0, .double 0, .double 0, .double 0, .double 0])), (b5, .inr (0, [.int 0, .int 0, .double 0, .double 0, .double 0, .double 0])), (b6, .inr (0, [.int 0, .int 0, .double 0, .double 0, .double 0, .double 0]))] H := hP
  have hD : va_D A [(r, .inr (1, [.ref la, .int 0, .int 0, .int 0, .double 0])), (la, .inl (cA, (8, .inr (.inr (.inr (.inr (va_up (va_up (va_up (va_up (va_up (va_up (fun _ => none) 0 (some b0)) 1 (some b1)) 2 (some b2)) 3 (some b3)) 4 (some b4)) 5 (some b5)))))))), (b0, .inr (0, [.int 0, .int 0, .double 0, .double 0, .double 0, .double 0])), (b1, .inr (0, [.int 0, .int 0, .double 0, .double 0, .double 0, .double 0])), (b2, .inr (0, [.int 0, .int 0, .double 0, .double 0, .double 0, .double 0])), (b3, .inr (0, [.int 0, .int 0, .double 0, .double 0, .double 0, .double 0])), (b4, .inr (0, [.int 0, .int 0, .double 0, .double 0, .double 0, .double 0])), (b5, .inr (0, [.int 0, .int 0, .double 0, .double 0, .double 0, .double 0])), (b6, .inr (0, [.int 0, .int 0, .double 0, .double 0, .double 0, .double 0]))] := hD
  refine va_astq hx hb hK hP hD hS 1 0 8 0 rfl (r := (RX0, TX0, 6)) rfl rfl rfl (vp_in_nI (n := 6) (by decide) (by decide)) dX1_init_36 (fun H locs hP hD hS => ?_)
  have hP : va_P D vwCl [(r, .inr (1, [.ref la, .int 0, .int 0, .int 0, .double 0])), (la, .inl (cA, (8, .inr (.inr (.inr (.inr (va_up (va_up (va_up (va_up (va_up (va_up (va_up (fun _ => none) 0 (some b0)) 1 (some b1)) 2 (some b2)) 3 (some b3)) 4 (some b4)) 5 (some b5)) 6 (some b6)))))))), (b0, .inr (0, [.int 0, .int 0, .double 0, .double 0, .double 0, .double 0])), (b1, .inr (0, [.int 0, .int 0, .double 0, .double 0, .double 0, .double 0])), (b2, .inr (0, [.int 0, .int 0, .double 0, .double 0, .double 0, .double 0])), (b3, .inr (0, [.int 0, .int 0, .double 0, .double 0, .double 0, .double 0])), (b4, .inr (0, [.int 0, .int 0, .double 0, .double 0, .double 0, .double 0])), (b5, .inr (0, [.int 0, .int 0, .double 0, .double 0, .double 0, .double 0])), (b6, .inr (0, [.int 0, .int 0, .double 0, .double 0, .double 0, .double 0]))] H := hP
  have hD : va_D A [(r, .inr (1, [.ref la, .int 0, .int 0, .int 0, .double 0])), (la, .inl (cA, (8, .inr (.inr (.inr (.inr (va_up (va_up (va_up (va_up (va_up (va_up (va_up (fun _ => none) 0 (some b0)) 1 (some b1)) 2 (some b2)) 3 (some b3)) 4 (some b4)) 5 (some b5)) 6 (some b6)))))))), (b0, .inr (0, [.int 0, .int 0, .double 0, .double 0, .double 0, .double 0])), (b1, .inr (0, [.int 0, .int 0, .double 0, .double 0, .double 0, .double 0])), (b2, .inr (0, [.int 0, .int 0, .double 0, .double 0, .double 0, .double 0])), (b3, .inr (0, [.int 0, .int 0, .double 0, .double 0, .double 0, .double 0])), (b4, .inr (0, [.int 0, .int 0, .double 0, .double 0, .double 0, .double 0])), (b5, .inr (0, [.int 0, .int 0, .double 0, .double 0, .double 0, .double 0])), (b6, .inr (0, [.int 0, .int 0, .double 0, .double 0, .double 0, .double 0]))] := hD
  refine lv_iinc (v := 7) (lv' := [(1, .int 7), (0, .ref r)]) hx hb dX1_init_37 hl (k := 0) rfl rfl (by decide) rfl (fun ls hl => ?_)
  refine lv_goto (tgt := 15) hx hb dX1_init_40 (by decide) ?_
  refine lv_iload_n hx hb dX1_init_15 rfl (lv_at hl 0 rfl) ?_
  refine lv_aload_n hx hb dX1_init_16 rfl (lv_at hl 1 rfl) ?_
  refine va_get (D := D) (ci := 1) (v := .ref la) (C := RX1) (T := TX1) (N := 5) hx hb hts (by decide +kernel) hown hK hP (0) rfl rfl 0 (by decide) (hts (.fieldLink RX1 11 "VinegarLoft$Row" "line" "[LVinegarLoft$Barrel;") (by decide +kernel)) (fun _ h9 => h9) rfl dX1_init_17 ?_
  refine va_alen hx hb hK hP 1 0 (v := 8) rfl rfl rfl dX1_init_20 ?_
  refine lv_icmp_ge (tgt := 43) hx hb dX1_init_21 (by decide) (fun c21 => absurd c21 (by decide)) (fun c21 => ?_)
  refine lv_aload_n hx hb dX1_init_24 rfl (lv_at hl 1 rfl) ?_
  refine va_get (D := D) (ci := 1) (v := .ref la) (C := RX1) (T := TX1) (N := 5) hx hb hts (by decide +kernel) hown hK hP (0) rfl rfl 0 (by decide) (hts (.fieldLink RX1 11 "VinegarLoft$Row" "line" "[LVinegarLoft$Barrel;") (by decide +kernel)) (fun _ h9 => h9) rfl dX1_init_25 ?_
  refine lv_iload_n hx hb dX1_init_28 rfl (lv_at hl 0 rfl) ?_
  refine va_new (ci := 0) (fs := [.int 0, .int 0, .double 0, .double 0, .double 0, .double 0]) (C := RX0) (T := TX0) (N := 6) hx hb hts (by decide +kernel) tyX0 tyX0_ok hown (hts (.classLink RX1 9 RX0) (by decide +kernel)) (hts (.instantiable RX0 6) (by decide +kernel)) (hts (.initialized RX0) (by decide +kernel)) hK hP hD hS hA rfl (fun j hj => by rcases (show j = 0 ∨ j = 1 ∨ j = 2 ∨ j = 3 ∨ j = 4 ∨ j = 5 by omega) with rfl | rfl | rfl | rfl | rfl | rfl <;> rfl) (Nat.le_of_ble_eq_true rfl) (Nat.le_of_ble_eq_true rfl) dX1_init_29 (fun b7 H hP hD hS => ?_)
  have hP : va_P D vwCl [(r, .inr (1, [.ref la, .int 0, .int 0, .int 0, .double 0])), (la, .inl (cA, (8, .inr (.inr (.inr (.inr (va_up (va_up (va_up (va_up (va_up (va_up (va_up (fun _ => none) 0 (some b0)) 1 (some b1)) 2 (some b2)) 3 (some b3)) 4 (some b4)) 5 (some b5)) 6 (some b6)))))))), (b0, .inr (0, [.int 0, .int 0, .double 0, .double 0, .double 0, .double 0])), (b1, .inr (0, [.int 0, .int 0, .double 0, .double 0, .double 0, .double 0])), (b2, .inr (0, [.int 0, .int 0, .double 0, .double 0, .double 0, .double 0])), (b3, .inr (0, [.int 0, .int 0, .double 0, .double 0, .double 0, .double 0])), (b4, .inr (0, [.int 0, .int 0, .double 0, .double 0, .double 0, .double 0])), (b5, .inr (0, [.int 0, .int 0, .double 0, .double 0, .double 0, .double 0])), (b6, .inr (0, [.int 0, .int 0, .double 0, .double 0, .double 0, .double 0])), (b7, .inr (0, [.int 0, .int 0, .double 0, .double 0, .double 0, .double 0]))] H := hP
  have hD : va_D A [(r, .inr (1, [.ref la, .int 0, .int 0, .int 0, .double 0])), (la, .inl (cA, (8, .inr (.inr (.inr (.inr (va_up (va_up (va_up (va_up (va_up (va_up (va_up (fun _ => none) 0 (some b0)) 1 (some b1)) 2 (some b2)) 3 (some b3)) 4 (some b4)) 5 (some b5)) 6 (some b6)))))))), (b0, .inr (0, [.int 0, .int 0, .double 0, .double 0, .double 0, .double 0])), (b1, .inr (0, [.int 0, .int 0, .double 0, .double 0, .double 0, .double 0])), (b2, .inr (0, [.int 0, .int 0, .double 0, .double 0, .double 0, .double 0])), (b3, .inr (0, [.int 0, .int 0, .double 0, .double 0, .double 0, .double 0])), (b4, .inr (0, [.int 0, .int 0, .double 0, .double 0, .double 0, .double 0])), (b5, .inr (0, [.int 0, .int 0, .double 0, .double 0, .double 0, .double 0])), (b6, .inr (0, [.int 0, .int 0, .double 0, .double 0, .double 0, .double 0])), (b7, .inr (0, [.int 0, .int 0, .double 0, .double 0, .double 0, .double 0]))] := hD
  refine lv_dup hx hb dX1_init_32 rfl ?_
  refine ko_v (k := 9) (va_runIN (As := []) (rest := [.ref b7, .int 7, .ref la]) ⟨hx, hb, hml, hown, hts⟩ (metX0_init l D H.size b7 0 0 0 0 0 0) ⟨va_cnB 0 hts gX1_init_X0_init_n17 rfl rfl rfl hNw (hts (.initialized RX0) (by decide +kernel)) (by decide +kernel) ⟨Nat.le_of_ble_eq_true rfl, Nat.le_of_ble_eq_true rfl⟩, rfl, hts (.instanceMethod yX0_init) (by decide +kernel)⟩ (pmS (vj_oP (k := 9) rfl hP) (hK.sub [] rfl) (vj_oD (k := 9) rfl hD)) rfl rfl hl.1 rfl (lv_room (Nat.le_of_ble_eq_true rfl)) dX1_init_33 ⟨Nat.le_of_ble_eq_true rfl, Nat.le_of_ble_eq_true rfl⟩) rfl hP hD hS hA (fun H locs hP hD hS => ?_)
  have hP : va_P D vwCl [(r, .inr (1, [.ref la, .int 0, .int 0, .int 0, .double 0])), (la, .inl (cA, (8, .inr (.inr (.inr (.inr (va_up (va_up (va_up (va_up (va_up (va_up (va_up (fun _ => none) 0 (some b0)) 1 (some b1)) 2 (some b2)) 3 (some b3)) 4 (some b4)) 5 (some b5)) 6 (some b6)))))))), (b0, .inr (0, [.int 0, .int 0, .double 0, .double 0, .double 0, .double 0])), (b1, .inr (0, [.int 0, .int 0, .double 0, .double 0, .double 0, .double 0])), (b2, .inr (0, [.int 0, .int 0, .double 0, .double 0, .double 0, .double 0])), (b3, .inr (0, [.int 0, .int 0, .double 0, .double 0, .double 0, .double 0])), (b4, .inr (0, [.int 0, .int 0, .double 0, .double 0, .double 0, .double 0])), (b5, .inr (0, [.int 0, .int 0, .double 0, .double 0, .double 0, .double 0])), (b6, .inr (0, [.int 0, .int 0, .double 0, .double 0, .double 0, .double 0])), (b7, .inr (0, [.int 0, .int 0, .double 0, .double 0, .double 0, .double 0]))] H := hP
  have hD : va_D A [(r, .inr (1, [.ref la, .int 0, .int 0, .int 0, .double 0])), (la, .inl (cA, (8, .inr (.inr (.inr (.inr (va_up (va_up (va_up (va_up (va_up (va_up (va_up (fun _ => none) 0 (some b0)) 1 (some b1)) 2 (some b2)) 3 (some b3)) 4 (some b4)) 5 (some b5)) 6 (some b6)))))))), (b0, .inr (0, [.int 0, .int 0, .double 0, .double 0, .double 0, .double 0])), (b1, .inr (0, [.int 0, .int 0, .double 0, .double 0, .double 0, .double 0])), (b2, .inr (0, [.int 0, .int 0, .double 0, .double 0, .double 0, .double 0])), (b3, .inr (0, [.int 0, .int 0, .double 0, .double 0, .double 0, .double 0])), (b4, .inr (0, [.int 0, .int 0, .double 0, .double 0, .double 0, .double 0])), (b5, .inr (0, [.int 0, .int 0, .double 0, .double 0, .double 0, .double 0])), (b6, .inr (0, [.int 0, .int 0, .double 0, .double 0, .double 0, .double 0])), (b7, .inr (0, [.int 0, .int 0, .double 0, .double 0, .double 0, .double 0]))] := hD
  refine va_astq hx hb hK hP hD hS 1 0 9 0 rfl (r := (RX0, TX0, 6)) rfl rfl rfl (vp_in_nI (n := 7) (by decide) (by decide)) dX1_init_36 (fun H locs hP hD hS => ?_)
  have hP : va_P D vwCl [(r, .inr (1, [.ref la, .int 0, .int 0, .int 0, .double 0])), (la, .inl (cA, (8, .inr (.inr (.inr (.inr (va_up (va_up (va_up (va_up (va_up (va_up (va_up (va_up (fun _ => none) 0 (some b0)) 1 (some b1)) 2 (some b2)) 3 (some b3)) 4 (some b4)) 5 (some b5)) 6 (some b6)) 7 (some b7)))))))), (b0, .inr (0, [.int 0, .int 0, .double 0, .double 0, .double 0, .double 0])), (b1, .inr (0, [.int 0, .int 0, .double 0, .double 0, .double 0, .double 0])), (b2, .inr (0, [.int 0, .int 0, .double 0, .double 0, .double 0, .double 0])), (b3, .inr (0, [.int 0, .int 0, .double 0, .double 0, .double 0, .double 0])), (b4, .inr (0, [.int 0, .int 0, .double 0, .double 0, .double 0, .double 0])), (b5, .inr (0, [.int 0, .int 0, .double 0, .double 0, .double 0, .double 0])), (b6, .inr (0, [.int 0, .int 0, .double 0, .double 0, .double 0, .double 0])), (b7, .inr (0, [.int 0, .int 0, .double 0, .double 0, .double 0, .double 0]))] H := hP
  have hD : va_D A [(r, .inr (1, [.ref la, .int 0, .int 0, .int 0, .double 0])), (la, .inl (cA, (8, .inr (.inr (.inr (.inr (va_up (va_up (va_up (va_up (va_up (va_up (va_up (va_up (fun _ => none) 0 (some b0)) 1 (some b1)) 2 (some b2)) 3 (some b3)) 4 (some b4)) 5 (some b5)) 6 (some b6)) 7 (some b7)))))))), (b0, .inr (0, [.int 0, .int 0, .double 0, .double 0, .double 0, .double 0])), (b1, .inr (0, [.int 0, .int 0, .double 0, .double 0, .double 0, .double 0])), (b2, .inr (0, [.int 0, .int 0, .double 0, .double 0, .double 0, .double 0])), (b3, .inr (0, [.int 0, .int 0, .double 0, .double 0, .double 0, .double 0])), (b4, .inr (0, [.int 0, .int 0, .double 0, .double 0, .double 0, .double 0])), (b5, .inr (0, [.int 0, .int 0, .double 0, .double 0, .double 0, .double 0])), (b6, .inr (0, [.int 0, .int 0, .double 0, .double 0, .double 0, .double 0])), (b7, .inr (0, [.int 0, .int 0, .double 0, .double 0, .double 0, .double 0]))] := hD
  refine lv_iinc (v := 8) (lv' := [(1, .int 8), (0, .ref r)]) hx hb dX1_init_37 hl (k := 0) rfl rfl (by decide) rfl (fun ls hl => ?_)
  refine lv_goto (tgt := 15) hx hb dX1_init_40 (by decide) ?_
  refine lv_iload_n hx hb dX1_init_15 rfl (lv_at hl 0 rfl) ?_
  refine lv_aload_n hx hb dX1_init_16 rfl (lv_at hl 1 rfl) ?_
  refine va_get (D := D) (ci := 1) (v := .ref la) (C := RX1) (T := TX1) (N := 5) hx hb hts (by decide +kernel) hown hK hP (0) rfl rfl 0 (by decide) (hts (.fieldLink RX1 11 "VinegarLoft$Row" "line" "[LVinegarLoft$Barrel;") (by decide +kernel)) (fun _ h9 => h9) rfl dX1_init_17 ?_
  refine va_alen hx hb hK hP 1 0 (v := 8) rfl rfl rfl dX1_init_20 ?_
  refine lv_icmp_ge (tgt := 43) hx hb dX1_init_21 (by decide) (fun c21 => ?_) (fun c21 => absurd (by decide) c21)
  refine lv_aload_n hx hb dX1_init_43 rfl (lv_at hl 1 rfl) ?_
  refine lv_iconst (v := 0) hx hb dX1_init_44 (by decide) ?_
  refine va_put (D := D) (ci := 1) (v := .int 0) (ty := .int) (C := RX1) (T := TX1) (N := 5) hx hb hts (by decide +kernel) tyX1 tyX1_ok nmX1 hown hK hP hD hS (0) rfl rfl 1 (by decide) (hts (.fieldLink RX1 18 "VinegarLoft$Row" "count" "I") (by decide +kernel)) (fun _ h9 => h9) rfl (by decide +kernel) rfl rfl (Nat.le_of_ble_eq_true rfl) dX1_init_45 (fun H locs hP hD hS => ?_)
  have hP : va_P D vwCl [(r, .inr (1, [.ref la, .int 0, .int 0, .int 0, .double 0])), (la, .inl (cA, (8, .inr (.inr (.inr (.inr (va_up (va_up (va_up (va_up (va_up (va_up (va_up (va_up (fun _ => none) 0 (some b0)) 1 (some b1)) 2 (some b2)) 3 (some b3)) 4 (some b4)) 5 (some b5)) 6 (some b6)) 7 (some b7)))))))), (b0, .inr (0, [.int 0, .int 0, .double 0, .double 0, .double 0, .double 0])), (b1, .inr (0, [.int 0, .int 0, .double 0, .double 0, .double 0, .double 0])), (b2, .inr (0, [.int 0, .int 0, .double 0, .double 0, .double 0, .double 0])), (b3, .inr (0, [.int 0, .int 0, .double 0, .double 0, .double 0, .double 0])), (b4, .inr (0, [.int 0, .int 0, .double 0, .double 0, .double 0, .double 0])), (b5, .inr (0, [.int 0, .int 0, .double 0, .double 0, .double 0, .double 0])), (b6, .inr (0, [.int 0, .int 0, .double 0, .double 0, .double 0, .double 0])), (b7, .inr (0, [.int 0, .int 0, .double 0, .double 0, .double 0, .double 0]))] H := hP
  have hD : va_D A [(r, .inr (1, [.ref la, .int 0, .int 0, .int 0, .double 0])), (la, .inl (cA, (8, .inr (.inr (.inr (.inr (va_up (va_up (va_up (va_up (va_up (va_up (va_up (va_up (fun _ => none) 0 (some b0)) 1 (some b1)) 2 (some b2)) 3 (some b3)) 4 (some b4)) 5 (some b5)) 6 (some b6)) 7 (some b7)))))))), (b0, .inr (0, [.int 0, .int 0, .double 0, .double 0, .double 0, .double 0])), (b1, .inr (0, [.int 0, .int 0, .double 0, .double 0, .double 0, .double 0])), (b2, .inr (0, [.int 0, .int 0, .double 0, .double 0, .double 0, .double 0])), (b3, .inr (0, [.int 0, .int 0, .double 0, .double 0, .double 0, .double 0])), (b4, .inr (0, [.int 0, .int 0, .double 0, .double 0, .double 0, .double 0])), (b5, .inr (0, [.int 0, .int 0, .double 0, .double 0, .double 0, .double 0])), (b6, .inr (0, [.int 0, .int 0, .double 0, .double 0, .double 0, .double 0])), (b7, .inr (0, [.int 0, .int 0, .double 0, .double 0, .double 0, .double 0]))] := hD
  refine lv_aload_n hx hb dX1_init_48 rfl (lv_at hl 1 rfl) ?_
  refine lv_bipush (v := 18) hx hb dX1_init_49 (by decide) ?_
  refine va_put (D := D) (ci := 1) (v := .int 18) (ty := .int) (C := RX1) (T := TX1) (N := 5) hx hb hts (by decide +kernel) tyX1 tyX1_ok nmX1 hown hK hP hD hS (0) rfl rfl 2 (by decide) (hts (.fieldLink RX1 22 "VinegarLoft$Row" "warmth" "I") (by decide +kernel)) (fun _ h9 => h9) rfl (by decide +kernel) rfl rfl (Nat.le_of_ble_eq_true rfl) dX1_init_51 (fun H locs hP hD hS => ?_)
  have hP : va_P D vwCl [(r, .inr (1, [.ref la, .int 0, .int 18, .int 0, .double 0])), (la, .inl (cA, (8, .inr (.inr (.inr (.inr (va_up (va_up (va_up (va_up (va_up (va_up (va_up (va_up (fun _ => none) 0 (some b0)) 1 (some b1)) 2 (some b2)) 3 (some b3)) 4 (some b4)) 5 (some b5)) 6 (some b6)) 7 (some b7)))))))), (b0, .inr (0, [.int 0, .int 0, .double 0, .double 0, .double 0, .double 0])), (b1, .inr (0, [.int 0, .int 0, .double 0, .double 0, .double 0, .double 0])), (b2, .inr (0, [.int 0, .int 0, .double 0, .double 0, .double 0, .double 0])), (b3, .inr (0, [.int 0, .int 0, .double 0, .double 0, .double 0, .double 0])), (b4, .inr (0, [.int 0, .int 0, .double 0, .double 0, .double 0, .double 0])), (b5, .inr (0, [.int 0, .int 0, .double 0, .double 0, .double 0, .double 0])), (b6, .inr (0, [.int 0, .int 0, .double 0, .double 0, .double 0, .double 0])), (b7, .inr (0, [.int 0, .int 0, .double 0, .double 0, .double 0, .double 0]))] H := hP
  have hD : va_D A [(r, .inr (1, [.ref la, .int 0, .int 18, .int 0, .double 0])), (la, .inl (cA, (8, .inr (.inr (.inr (.inr (va_up (va_up (va_up (va_up (va_up (va_up (va_up (va_up (fun _ => none) 0 (some b0)) 1 (some b1)) 2 (some b2)) 3 (some b3)) 4 (some b4)) 5 (some b5)) 6 (some b6)) 7 (some b7)))))))), (b0, .inr (0, [.int 0, .int 0, .double 0, .double 0, .double 0, .double 0])), (b1, .inr (0, [.int 0, .int 0, .double 0, .double 0, .double 0, .double 0])), (b2, .inr (0, [.int 0, .int 0, .double 0, .double 0, .double 0, .double 0])), (b3, .inr (0, [.int 0, .int 0, .double 0, .double 0, .double 0, .double 0])), (b4, .inr (0, [.int 0, .int 0, .double 0, .double 0, .double 0, .double 0])), (b5, .inr (0, [.int 0, .int 0, .double 0, .double 0, .double 0, .double 0])), (b6, .inr (0, [.int 0, .int 0, .double 0, .double 0, .double 0, .double 0])), (b7, .inr (0, [.int 0, .int 0, .double 0, .double 0, .double 0, .double 0]))] := hD
  refine lv_aload_n hx hb dX1_init_54 rfl (lv_at hl 1 rfl) ?_
  refine lv_iconst (v := (-1)) hx hb dX1_init_55 (by decide) ?_
  refine va_put (D := D) (ci := 1) (v := .int (-1)) (ty := .int) (C := RX1) (T := TX1) (N := 5) hx hb hts (by decide +kernel) tyX1 tyX1_ok nmX1 hown hK hP hD hS (0) rfl rfl 3 (by decide) (hts (.fieldLink RX1 25 "VinegarLoft$Row" "drawnFrom" "I") (by decide +kernel)) (fun _ h9 => h9) rfl (by decide +kernel) rfl rfl (Nat.le_of_ble_eq_true rfl) dX1_init_56 (fun H locs hP hD hS => ?_)
  have hP : va_P D vwCl [(r, .inr (1, [.ref la, .int 0, .int 18, .int (-1), .double 0])), (la, .inl (cA, (8, .inr (.inr (.inr (.inr (va_up (va_up (va_up (va_up (va_up (va_up (va_up (va_up (fun _ => none) 0 (some b0)) 1 (some b1)) 2 (some b2)) 3 (some b3)) 4 (some b4)) 5 (some b5)) 6 (some b6)) 7 (some b7)))))))), (b0, .inr (0, [.int 0, .int 0, .double 0, .double 0, .double 0, .double 0])), (b1, .inr (0, [.int 0, .int 0, .double 0, .double 0, .double 0, .double 0])), (b2, .inr (0, [.int 0, .int 0, .double 0, .double 0, .double 0, .double 0])), (b3, .inr (0, [.int 0, .int 0, .double 0, .double 0, .double 0, .double 0])), (b4, .inr (0, [.int 0, .int 0, .double 0, .double 0, .double 0, .double 0])), (b5, .inr (0, [.int 0, .int 0, .double 0, .double 0, .double 0, .double 0])), (b6, .inr (0, [.int 0, .int 0, .double 0, .double 0, .double 0, .double 0])), (b7, .inr (0, [.int 0, .int 0, .double 0, .double 0, .double 0, .double 0]))] H := hP
  have hD : va_D A [(r, .inr (1, [.ref la, .int 0, .int 18, .int (-1), .double 0])), (la, .inl (cA, (8, .inr (.inr (.inr (.inr (va_up (va_up (va_up (va_up (va_up (va_up (va_up (va_up (fun _ => none) 0 (some b0)) 1 (some b1)) 2 (some b2)) 3 (some b3)) 4 (some b4)) 5 (some b5)) 6 (some b6)) 7 (some b7)))))))), (b0, .inr (0, [.int 0, .int 0, .double 0, .double 0, .double 0, .double 0])), (b1, .inr (0, [.int 0, .int 0, .double 0, .double 0, .double 0, .double 0])), (b2, .inr (0, [.int 0, .int 0, .double 0, .double 0, .double 0, .double 0])), (b3, .inr (0, [.int 0, .int 0, .double 0, .double 0, .double 0, .double 0])), (b4, .inr (0, [.int 0, .int 0, .double 0, .double 0, .double 0, .double 0])), (b5, .inr (0, [.int 0, .int 0, .double 0, .double 0, .double 0, .double 0])), (b6, .inr (0, [.int 0, .int 0, .double 0, .double 0, .double 0, .double 0])), (b7, .inr (0, [.int 0, .int 0, .double 0, .double 0, .double 0, .double 0]))] := hD
  refine lv_aload_n hx hb dX1_init_59 rfl (lv_at hl 1 rfl) ?_
  refine kd_0 hx hb dX1_init_60 ?_
  refine va_put (D := D) (ci := 1) (v := .double 0) (ty := .double) (C := RX1) (T := TX1) (N := 5) hx hb hts (by decide +kernel) tyX1 tyX1_ok nmX1 hown hK hP hD hS (0) rfl rfl 4 (by decide) (hts (.fieldLink RX1 28 "VinegarLoft$Row" "mayBeDrawn" "D") (by decide +kernel)) (fun _ h9 => h9) rfl (by decide +kernel) rfl rfl (Nat.le_of_ble_eq_true rfl) dX1_init_61 (fun H locs hP hD hS => ?_)
  have hP : va_P D vwCl [(r, .inr (1, [.ref la, .int 0, .int 18, .int (-1), .double 0])), (la, .inl (cA, (8, .inr (.inr (.inr (.inr (va_up (va_up (va_up (va_up (va_up (va_up (va_up (va_up (fun _ => none) 0 (some b0)) 1 (some b1)) 2 (some b2)) 3 (some b3)) 4 (some b4)) 5 (some b5)) 6 (some b6)) 7 (some b7)))))))), (b0, .inr (0, [.int 0, .int 0, .double 0, .double 0, .double 0, .double 0])), (b1, .inr (0, [.int 0, .int 0, .double 0, .double 0, .double 0, .double 0])), (b2, .inr (0, [.int 0, .int 0, .double 0, .double 0, .double 0, .double 0])), (b3, .inr (0, [.int 0, .int 0, .double 0, .double 0, .double 0, .double 0])), (b4, .inr (0, [.int 0, .int 0, .double 0, .double 0, .double 0, .double 0])), (b5, .inr (0, [.int 0, .int 0, .double 0, .double 0, .double 0, .double 0])), (b6, .inr (0, [.int 0, .int 0, .double 0, .double 0, .double 0, .double 0])), (b7, .inr (0, [.int 0, .int 0, .double 0, .double 0, .double 0, .double 0]))] H := hP
  have hD : va_D A [(r, .inr (1, [.ref la, .int 0, .int 18, .int (-1), .double 0])), (la, .inl (cA, (8, .inr (.inr (.inr (.inr (va_up (va_up (va_up (va_up (va_up (va_up (va_up (va_up (fun _ => none) 0 (some b0)) 1 (some b1)) 2 (some b2)) 3 (some b3)) 4 (some b4)) 5 (some b5)) 6 (some b6)) 7 (some b7)))))))), (b0, .inr (0, [.int 0, .int 0, .double 0, .double 0, .double 0, .double 0])), (b1, .inr (0, [.int 0, .int 0, .double 0, .double 0, .double 0, .double 0])), (b2, .inr (0, [.int 0, .int 0, .double 0, .double 0, .double 0, .double 0])), (b3, .inr (0, [.int 0, .int 0, .double 0, .double 0, .double 0, .double 0])), (b4, .inr (0, [.int 0, .int 0, .double 0, .double 0, .double 0, .double 0])), (b5, .inr (0, [.int 0, .int 0, .double 0, .double 0, .double 0, .double 0])), (b6, .inr (0, [.int 0, .int 0, .double 0, .double 0, .double 0, .double 0])), (b7, .inr (0, [.int 0, .int 0, .double 0, .double 0, .double 0, .double 0]))] := hD
  have hP9 : va_P D vwCl (row0 r la (bsf b0 b1 b2 b3 b4 b5 b6 b7) cA) H := by
    intro k q hk
    match k, hk with
    | 0, hk => cases hk; exact hP 0 _ rfl
    | 1, hk => cases hk; exact va_line (hP 1 _ rfl) (fun j hj => lt8 (P := fun j => (va_up (va_up (va_up (va_up (va_up (va_up (va_up (va_up (fun _ => none) 0 (some b0)) 1 (some b1)) 2 (some b2)) 3 (some b3)) 4 (some b4)) 5 (some b5)) 6 (some b6)) 7 (some b7)) j = some ((bsf b0 b1 b2 b3 b4 b5 b6 b7) j)) rfl rfl rfl rfl rfl rfl rfl rfl hj)
    | 2, hk => cases hk; exact hP 2 _ rfl
    | 3, hk => cases hk; exact hP 3 _ rfl
    | 4, hk => cases hk; exact hP 4 _ rfl
    | 5, hk => cases hk; exact hP 5 _ rfl
    | 6, hk => cases hk; exact hP 6 _ rfl
    | 7, hk => cases hk; exact hP 7 _ rfl
    | 8, hk => cases hk; exact hP 8 _ rfl
    | 9, hk => cases hk; exact hP 9 _ rfl
    | k + 10, hk => simp [rowW] at hk
  have hD9 : va_D A (row0 r la (bsf b0 b1 b2 b3 b4 b5 b6 b7) cA) := by
    have key : ∀ (k : Nat) (q : Nat × va_E), (row0 r la (bsf b0 b1 b2 b3 b4 b5 b6 b7) cA)[k]? = some q → ∃ q0, ([(r, .inr (1, [.ref la, .int 0, .int 18, .int (-1), .double 0])), (la, .inl (cA, (8, .inr (.inr (.inr (.inr (va_up (va_up (va_up (va_up (va_up (va_up (va_up (va_up (fun _ => none) 0 (some b0)) 1 (some b1)) 2 (some b2)) 3 (some b3)) 4 (some b4)) 5 (some b5)) 6 (some b6)) 7 (some b7)))))))), (b0, .inr (0, [.int 0, .int 0, .double 0, .double 0, .double 0, .double 0])), (b1, .inr (0, [.int 0, .int 0, .double 0, .double 0, .double 0, .double 0])), (b2, .inr (0, [.int 0, .int 0, .double 0, .double 0, .double 0, .double 0])), (b3, .inr (0, [.int 0, .int 0, .double 0, .double 0, .double 0, .double 0])), (b4, .inr (0, [.int 0, .int 0, .double 0, .double 0, .double 0, .double 0])), (b5, .inr (0, [.int 0, .int 0, .double 0, .double 0, .double 0, .double 0])), (b6, .inr (0, [.int 0, .int 0, .double 0, .double 0, .double 0, .double 0])), (b7, .inr (0, [.int 0, .int 0, .double 0, .double 0, .double 0, .double 0]))] : va_W)[k]? = some q0 ∧ q0.1 = q.1 := by
      intro k q hk
      match k, hk with
      | 0, hk => cases hk; exact ⟨_, rfl, rfl⟩
      | 1, hk => cases hk; exact ⟨_, rfl, rfl⟩
      | 2, hk => cases hk; exact ⟨_, rfl, rfl⟩
      | 3, hk => cases hk; exact ⟨_, rfl, rfl⟩
      | 4, hk => cases hk; exact ⟨_, rfl, rfl⟩
      | 5, hk => cases hk; exact ⟨_, rfl, rfl⟩
      | 6, hk => cases hk; exact ⟨_, rfl, rfl⟩
      | 7, hk => cases hk; exact ⟨_, rfl, rfl⟩
      | 8, hk => cases hk; exact ⟨_, rfl, rfl⟩
      | 9, hk => cases hk; exact ⟨_, rfl, rfl⟩
      | k + 10, hk => simp [rowW] at hk
    refine ⟨fun i j p q hi hj h => ?_, fun k q hk => ?_⟩
    · obtain ⟨p0, a1, a2⟩ := key i p hi
      obtain ⟨q0, b1, b2⟩ := key j q hj
      exact hD.1 i j p0 q0 a1 b1 (by rw [a2, b2]; exact h)
    · obtain ⟨q0, a1, a2⟩ := key k q hk
      rw [← a2]; exact hD.2 k q0 a1
  refine W.widen (k := 9) (n := 56) (Nat.le_of_ble_eq_true rfl) (Nat.le_of_ble_eq_true rfl) ?_
  exact W.vret hx hb hr (fun t ht hW => ⟨⟨(la, bsf b0 b1 b2 b3 b4 b5 b6 b7, cA), rfl, trivial, by rw [ht]; exact hP9, va_K.moved hW.alike hK, hD9⟩, hS.F ht⟩) hS.2.2 dX1_init_64
end
