/-! VinegarLoft's constructor (laid by wip/p23/prog/x2c.py) -/
section KIV
variable {p : Program} {l : Launch} {e : Env} {R : Room} {s : State} {m : MethodId} {args : Array Value} {below : List Frame} {meth : Method} {c : Code} {H H0 : Heap} {locs : List Loc} {cells slots : Nat} {Q : State → Prop} {D : va_G} {A0 : Nat → Prop} {pc : Nat} {ls : Array Slot} {rest st0 : List Value} {w1 w2 w3 : va_W} {mc ms : Nat} {aa : Array Value}
/-- a constructor's call, in the middle part: what it made is named -/
theorem kI_v {S : Type} {w2' : S → va_W} {tk : S → List (ClassId × FieldType)} (hr : va_Run p l e R s m args below meth c H locs cells slots mc ms (F0 m pc ls st0) rest (va_Qv (fun (_ : S) => True) (fun u t => va_P D vwCl (w2' u) t.heap ∧ va_K D vwCl (tk u) t ∧ va_D (va_A w2 H.size) (w2' u)) (va_A w2 H.size) aa) (va_A w2 H.size)) (hP : va_P D vwCl (w1 ++ (w2 ++ w3)) H) (hD : va_D A0 (w1 ++ (w2 ++ w3))) (hS : va_S A0 H0 H locs) (hA : ∀ q, H0.size ≤ q → A0 q)
    (kk : ∀ (u : S) (H1 : Heap) (locs1 : List Loc), va_K D vwCl (tk u) s → va_P D vwCl (w1 ++ (w2' u ++ w3)) H1 → va_D A0 (w1 ++ (w2' u ++ w3)) → va_S A0 H0 H1 locs1 → W p l e R s m args below meth c H1 locs1 (cells + mc) (slots + ms) Q (F0 m (pc + 3) ls rest)) : W p l e R s m args below meth c H locs cells slots Q (F0 m pc ls st0) := by
  refine va_callv hr hS (fun q _ h => vj_mF hD hS hA q h) (vj_mF hD hS hA) (fun u t H1 locs1 ht hvm hw hB hz hk hS1 => ?_)
  obtain ⟨hP1, hK1, hD1⟩ := hB
  rw [ht] at hP1
  obtain ⟨hP2, hD2⟩ := vj_mid hP hD hk (vj_mF hD hS hA) hP1 hD1
  exact kk u H1 locs1 (hK1.moved hvm.symm) hP2 hD2 hS1
end KIV
/-- the arrays of one type have one class -/
theorem va_K_cA {D : va_G} {s : State} {a b : ClassId} {C : String} (h1 : va_K D vwCl [(a, .object C)] s) (h2 : va_K D vwCl [(b, .object C)] s) : a = b := by
  obtain ⟨-, -, -, -, -, f1⟩ := (h1.2 0 _ rfl).2
  obtain ⟨-, -, -, -, -, f2⟩ := (h2.2 0 _ rfl).2
  exact Option.some.inj (f1.symm.trans f2)
/-- a loft as it is made -/
abbrev loft0 (x r t d la lt : Nat) (bs bt : Nat → Nat) (cA cI : ClassId) : va_W := [(x, EX r t d 0)] ++ (row0 r la bs cA ++ (row0 t lt bt cA ++ [(d, ED cI (fun _ => 0))]))
abbrev LMK : Type := Nat × Nat × Nat × Nat × Nat × (Nat → Nat) × (Nat → Nat) × ClassId × ClassId
abbrev loftU (x : Nat) (u : LMK) : va_W := loft0 x u.1 u.2.1 u.2.2.1 u.2.2.2.1 u.2.2.2.2.1 u.2.2.2.2.2.1 u.2.2.2.2.2.2.1 u.2.2.2.2.2.2.2.1 u.2.2.2.2.2.2.2.2
abbrev tysU (u : LMK) : List (ClassId × FieldType) := [(u.2.2.2.2.2.2.2.1, .object "VinegarLoft$Barrel"), (u.2.2.2.2.2.2.2.2, .int)]
set_option maxHeartbeats 4000000 in
set_option maxRecDepth 100000 in
/-- VinegarLoft(): two empty rows, no bottles -/
theorem metX2_init (l : Launch) (D : va_G) (sz : Nat) (x : Nat) : Met l yX2_init wsX2_init { frames := 3, cells := 21, slots := 125, locals := 53 } (Pi D [.ref x] [(x, .inr (2, [.null, .null, .null, .int 0]))] sz) (va_Qv (fun (_ : LMK) => True) (fun u t => va_P D vwCl (loftU x u) t.heap ∧ va_K D vwCl (tysU u) t ∧ va_D (va_A [(x, .inr (2, [.null, .null, .null, .int 0]))] sz) (loftU x u)) (va_A [(x, .inr (2, [.null, .null, .null, .int 0]))] sz)) 21 125 (va_A [(x, .inr (2, [.null, .null, .null, .int 0]))] sz) := by
  refine Met.ofW (cc := cX2_init) (maxL := 1) (ret := none) (by decide) rfl ?_
  intro p e s m args below meth c s₁ B hml hv
  obtain ⟨rfl, hsz, hP, hK, hD0, hO, hNw⟩ := hv
  have hx := B.exec
  have hb := B.bytes
  have hr := B.returns
  have hts := atoms_spec (ws := wsX2_init) B.pre
  have hown : s.vm.findClass RX2 = some m.cls := findClass_of_methodNamed B.named
  have hlocks := B.notSynchronized
  have hin : meth.name = "<init>" := (name_of_methodNamed B.named B.method).1
  subst hsz
  have hD := hD0.self (sz := s.heap.size)
  generalize hAe : va_A [(x, .inr (2, [.null, .null, .null, .int 0]))] s.heap.size = A at hD ⊢
  have hA : ∀ q : Nat, s.heap.size ≤ q → A q := fun q h => by rw [← hAe]; exact Or.inr h
  refine kW_H (fun H hH => ?_)
  have hP : va_P D vwCl [(x, .inr (2, [.null, .null, .null, .int 0]))] H := by rw [hH]; exact hP
  have hS : va_S A s.heap H [] := by rw [hH]; exact va_S.rf
  have hl := lv_entry ([.ref x]) (n := 1) (Nat.le_of_ble_eq_true rfl)
  rw [lg_entry_eq]
  generalize (lg_sl ([.ref x]) ++ List.replicate (1 - (lg_sl ([.ref x])).length) Slot.unset).toArray = ls at hl ⊢
  have hl : lv_has ls 1 [(0, .ref x)] := hl
  refine lv_aload_n hx hb dX2_init_0 rfl (lv_at hl 0 rfl) ?_
  refine W.objInit hx hb hown (hts (.methodLink RX2 1 objectInit) (by decide +kernel)) (hts (.instanceMethod objectInit) (by decide +kernel)) (hts (.code objectInit ⟨#[0xb1]⟩ 1 none) (by decide +kernel)) rfl (by rw [hml]; exact hl.1) rfl dX2_init_1 (Nat.le_of_ble_eq_true rfl) (Nat.le_of_ble_eq_true rfl) ?_
  refine W.eq (g2 := F0 m 4 ls []) rfl ?_
  refine lv_aload_n hx hb dX2_init_4 rfl (lv_at hl 0 rfl) ?_
  have hK0 : va_K D vwCl [] s := hK.sub [] rfl
  refine va_new (ci := 1) (fs := [.null, .int 0, .int 0, .int 0, .double 0]) (C := RX1) (T := TX1) (N := 5) hx hb hts (by decide +kernel) tyX1 tyX1_ok hown (hts (.classLink RX2 7 RX1) (by decide +kernel)) (hts (.instantiable RX1 5) (by decide +kernel)) (hts (.initialized RX1) (by decide +kernel)) hK0 hP hD hS hA rfl (fun j hj => by rcases (show j = 0 ∨ j = 1 ∨ j = 2 ∨ j = 3 ∨ j = 4 by omega) with rfl | rfl | rfl | rfl | rfl <;> rfl) (Nat.le_of_ble_eq_true rfl) (Nat.le_of_ble_eq_true rfl) dX2_init_5 (fun r H hP hD hS => ?_)
  have hP : va_P D vwCl ([(x, .inr (2, [.null, .null, .null, .int 0]))] ++ [(r, .inr (1, [.null, .int 0, .int 0, .int 0, .double 0]))]) H := hP
  have hD : va_D A ([(x, .inr (2, [.null, .null, .null, .int 0]))] ++ [(r, .inr (1, [.null, .int 0, .int 0, .int 0, .double 0]))]) := hD
  refine lv_dup hx hb dX2_init_8 rfl ?_
  have hP : va_P D vwCl (([(x, .inr (2, [.null, .null, .null, .int 0]))]) ++ ([(r, .inr (1, [.null, .int 0, .int 0, .int 0, .double 0]))] ++ [])) H := hP
  have hD : va_D A (([(x, .inr (2, [.null, .null, .null, .int 0]))]) ++ ([(r, .inr (1, [.null, .int 0, .int 0, .int 0, .double 0]))] ++ [])) := hD
  refine kI_v (S := Nat × (Nat → Nat) × ClassId) (w2' := fun u => row0 r u.1 u.2.1 u.2.2) (tk := fun u => [(u.2.2, .object "VinegarLoft$Barrel")]) (w1 := [(x, .inr (2, [.null, .null, .null, .int 0]))]) (w2 := [(r, .inr (1, [.null, .int 0, .int 0, .int 0, .double 0]))]) (w3 := []) (va_runI (As := []) (rest := [.ref r, .ref x]) ⟨hx, hb, hml, hown, hts⟩ (metX1_init l D H.size r) (cwI 0 hts gX2_init_X1_init rfl rfl rfl (hts (.initialized RX1) (by decide +kernel)) (hts (.methodLink RX2 9 yX1_init) (by decide +kernel)) (hts (.instanceMethod yX1_init) (by decide +kernel)) rfl (by decide +kernel) ⟨Nat.le_of_ble_eq_true rfl, Nat.le_of_ble_eq_true rfl⟩) (piS (vj_mP hP) (hK.sub [] rfl) (vj_mD hD) hO hNw) rfl rfl hl.1 rfl (lv_room (Nat.le_of_ble_eq_true rfl)) dX2_init_9 ⟨Nat.le_of_ble_eq_true rfl, Nat.le_of_ble_eq_true rfl⟩) hP hD hS hA (fun u9 H locs hK1 hP hD hS => ?_)
  obtain ⟨la, bs, cA⟩ := u9
  have hK : va_K D vwCl [(cA, .object "VinegarLoft$Barrel")] s := hK1
  have hKA := hK
  have hP : va_P D vwCl ([(x, .inr (2, [.null, .null, .null, .int 0]))] ++ row0 r la bs cA) H := hP
  have hD : va_D A ([(x, .inr (2, [.null, .null, .null, .int 0]))] ++ row0 r la bs cA) := hD
  refine va_putF (D := D) (ci := 2) (v := .ref r) (ty := .object "VinegarLoft$Row") (C := RX2) (T := TX2) (N := 4) hx hb hts (by decide +kernel) tyX2 tyX2_ok nmX2 hown hK hP hD hS (0) rfl rfl 0 (by decide) (hts (.fieldLink RX2 10 "VinegarLoft" "row" "LVinegarLoft$Row;") (by decide +kernel)) (fun _ h9 => h9) rfl hin rfl (by decide +kernel) rfl rfl (Nat.le_of_ble_eq_true rfl) dX2_init_12 (fun H locs hP hD hS => ?_)
  have hP : va_P D vwCl ([(x, .inr (2, [.ref r, .null, .null, .int 0]))] ++ row0 r la bs cA) H := hP
  have hD : va_D A ([(x, .inr (2, [.ref r, .null, .null, .int 0]))] ++ row0 r la bs cA) := hD
  refine lv_aload_n hx hb dX2_init_15 rfl (lv_at hl 0 rfl) ?_
  have hK0 : va_K D vwCl [] s := hK.sub [] rfl
  refine va_new (ci := 1) (fs := [.null, .int 0, .int 0, .int 0, .double 0]) (C := RX1) (T := TX1) (N := 5) hx hb hts (by decide +kernel) tyX1 tyX1_ok hown (hts (.classLink RX2 7 RX1) (by decide +kernel)) (hts (.instantiable RX1 5) (by decide +kernel)) (hts (.initialized RX1) (by decide +kernel)) hK0 hP hD hS hA rfl (fun j hj => by rcases (show j = 0 ∨ j = 1 ∨ j = 2 ∨ j = 3 ∨ j = 4 by omega) with rfl | rfl | rfl | rfl | rfl <;> rfl) (Nat.le_of_ble_eq_true rfl) (Nat.le_of_ble_eq_true rfl) dX2_init_16 (fun t H hP hD hS => ?_)
  have hP : va_P D vwCl ([(x, .inr (2, [.ref r, .null, .null, .int 0]))] ++ row0 r la bs cA ++ [(t, .inr (1, [.null, .int 0, .int 0, .int 0, .double 0]))]) H := hP
  have hD : va_D A ([(x, .inr (2, [.ref r, .null, .null, .int 0]))] ++ row0 r la bs cA ++ [(t, .inr (1, [.null, .int 0, .int 0, .int 0, .double 0]))]) := hD
  refine lv_dup hx hb dX2_init_19 rfl ?_
  have hP : va_P D vwCl (([(x, .inr (2, [.ref r, .null, .null, .int 0]))] ++ row0 r la bs cA) ++ ([(t, .inr (1, [.null, .int 0, .int 0, .int 0, .double 0]))] ++ [])) H := hP
  have hD : va_D A (([(x, .inr (2, [.ref r, .null, .null, .int 0]))] ++ row0 r la bs cA) ++ ([(t, .inr (1, [.null, .int 0, .int 0, .int 0, .double 0]))] ++ [])) := hD
  refine kI_v (S := Nat × (Nat → Nat) × ClassId) (w2' := fun u => row0 t u.1 u.2.1 u.2.2) (tk := fun u => [(u.2.2, .object "VinegarLoft$Barrel")]) (w1 := [(x, .inr (2, [.ref r, .null, .null, .int 0]))] ++ row0 r la bs cA) (w2 := [(t, .inr (1, [.null, .int 0, .int 0, .int 0, .double 0]))]) (w3 := []) (va_runI (As := []) (rest := [.ref t, .ref x]) ⟨hx, hb, hml, hown, hts⟩ (metX1_init l D H.size t) (cwI 0 hts gX2_init_X1_init rfl rfl rfl (hts (.initialized RX1) (by decide +kernel)) (hts (.methodLink RX2 9 yX1_init) (by decide +kernel)) (hts (.instanceMethod yX1_init) (by decide +kernel)) rfl (by decide +kernel) ⟨Nat.le_of_ble_eq_true rfl, Nat.le_of_ble_eq_true rfl⟩) (piS (vj_mP hP) (hK.sub [] rfl) (vj_mD hD) hO hNw) rfl rfl hl.1 rfl (lv_room (Nat.le_of_ble_eq_true rfl)) dX2_init_20 ⟨Nat.le_of_ble_eq_true rfl, Nat.le_of_ble_eq_true rfl⟩) hP hD hS hA (fun u9 H locs hK1 hP hD hS => ?_)
  obtain ⟨lt, bt, cB⟩ := u9
  obtain rfl := va_K_cA hKA hK1
  have hK : va_K D vwCl [(cA, .object "VinegarLoft$Barrel")] s := hKA
  have hP : va_P D vwCl ([(x, .inr (2, [.ref r, .null, .null, .int 0]))] ++ row0 r la bs cA ++ row0 t lt bt cA) H := hP
  have hD : va_D A ([(x, .inr (2, [.ref r, .null, .null, .int 0]))] ++ row0 r la bs cA ++ row0 t lt bt cA) := hD
  refine va_putF (D := D) (ci := 2) (v := .ref t) (ty := .object "VinegarLoft$Row") (C := RX2) (T := TX2) (N := 4) hx hb hts (by decide +kernel) tyX2 tyX2_ok nmX2 hown hK hP hD hS (0) rfl rfl 1 (by decide) (hts (.fieldLink RX2 16 "VinegarLoft" "trial" "LVinegarLoft$Row;") (by decide +kernel)) (fun _ h9 => h9) rfl hin rfl (by decide +kernel) rfl rfl (Nat.le_of_ble_eq_true rfl) dX2_init_23 (fun H locs hP hD hS => ?_)
  have hP : va_P D vwCl ([(x, .inr (2, [.ref r, .ref t, .null, .int 0]))] ++ row0 r la bs cA ++ row0 t lt bt cA) H := hP
  have hD : va_D A ([(x, .inr (2, [.ref r, .ref t, .null, .int 0]))] ++ row0 r la bs cA ++ row0 t lt bt cA) := hD
  refine lv_aload_n hx hb dX2_init_26 rfl (lv_at hl 0 rfl) ?_
  refine lv_iconst (v := 3) hx hb dX2_init_27 (by decide) ?_
  refine va_newa (atype := .int) (ty := .int) (n := 3) (N' := 3) (a0 := (3, .inl (fun _ => 0))) hx hb (hts (.arrayClass .int) (by decide +kernel)) rfl hK hP hD hS hA (fun _ => rfl) (by decide) (by decide) (by decide) (Nat.le_of_ble_eq_true rfl) (Nat.le_of_ble_eq_true rfl) dX2_init_28 (fun d cI H hK hP hD hS => ?_)
  have hK : va_K D vwCl [(cA, .object "VinegarLoft$Barrel"), (cI, .int)] s := hK
  have hP : va_P D vwCl ([(x, .inr (2, [.ref r, .ref t, .null, .int 0]))] ++ row0 r la bs cA ++ row0 t lt bt cA ++ [(d, ED cI (fun _ => 0))]) H := hP
  have hD : va_D A ([(x, .inr (2, [.ref r, .ref t, .null, .int 0]))] ++ row0 r la bs cA ++ row0 t lt bt cA ++ [(d, ED cI (fun _ => 0))]) := hD
  refine va_putF (D := D) (ci := 2) (v := .ref d) (ty := .array (.int)) (C := RX2) (T := TX2) (N := 4) hx hb hts (by decide +kernel) tyX2 tyX2_ok nmX2 hown hK hP hD hS (0) rfl rfl 2 (by decide) (hts (.fieldLink RX2 19 "VinegarLoft" "drawnByKind" "[I") (by decide +kernel)) (fun _ h9 => h9) rfl hin rfl (by decide +kernel) rfl rfl (Nat.le_of_ble_eq_true rfl) dX2_init_30 (fun H locs hP hD hS => ?_)
  have hP : va_P D vwCl ([(x, .inr (2, [.ref r, .ref t, .ref d, .int 0]))] ++ row0 r la bs cA ++ row0 t lt bt cA ++ [(d, ED cI (fun _ => 0))]) H := hP
  have hD : va_D A ([(x, .inr (2, [.ref r, .ref t, .ref d, .int 0]))] ++ row0 r la bs cA ++ row0 t lt bt cA ++ [(d, ED cI (fun _ => 0))]) := hD
  refine lv_aload_n hx hb dX2_init_33 rfl (lv_at hl 0 rfl) ?_
  refine lv_iconst (v := 0) hx hb dX2_init_34 (by decide) ?_
  refine va_put (D := D) (ci := 2) (v := .int 0) (ty := .int) (C := RX2) (T := TX2) (N := 4) hx hb hts (by decide +kernel) tyX2 tyX2_ok nmX2 hown hK hP hD hS (0) rfl rfl 3 (by decide) (hts (.fieldLink RX2 23 "VinegarLoft" "yearsGone" "I") (by decide +kernel)) (fun _ h9 => h9) rfl (by decide +kernel) rfl rfl (Nat.le_of_ble_eq_true rfl) dX2_init_35 (fun H locs hP hD hS => ?_)
  have hP : va_P D vwCl ([(x, .inr (2, [.ref r, .ref t, .ref d, .int 0]))] ++ row0 r la bs cA ++ row0 t lt bt cA ++ [(d, ED cI (fun _ => 0))]) H := hP
  have hD : va_D A ([(x, .inr (2, [.ref r, .ref t, .ref d, .int 0]))] ++ row0 r la bs cA ++ row0 t lt bt cA ++ [(d, ED cI (fun _ => 0))]) := hD
  have hP9 : va_P D vwCl (loftU x (r, t, d, la, lt, bs, bt, cA, cI)) H := hP
  have hD9 : va_D A (loftU x (r, t, d, la, lt, bs, bt, cA, cI)) := hD
  refine W.widen (k := 21) (n := 125) (Nat.le_of_ble_eq_true rfl) (Nat.le_of_ble_eq_true rfl) ?_
  exact W.vret hx hb hr (fun t9 ht9 hW => ⟨⟨(r, t, d, la, lt, bs, bt, cA, cI), rfl, trivial, by rw [ht9]; exact hP9, va_K.moved hW.alike hK, hD9⟩, hS.F ht9⟩) hS.2.2 dX2_init_38
